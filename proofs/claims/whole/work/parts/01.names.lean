-- ===== PART A: goes FIRST, ahead of the names: the tables' words, and 'selects' of the private methods out of them =====
/-- a private method of a class that the tables say can be made, by its rows of tables_1 -/
def lw_okq (q : MethodName × Nat) : Prop := (q.1.cls ≠ "java/lang/invoke/MethodHandle" ∧ q.1.cls ≠ "java/lang/invoke/VarHandle") ∧ Cond.instantiable q.1.cls q.2 ∈ tables_1 ∧ Cond.privateMethod q.1 ∈ tables_1 ∧ Cond.instanceMethod q.1 ∈ tables_1
theorem lw_p0 : lw_okq (⟨"NamesByLot", "namesFault", "()I"⟩, 11) := ⟨⟨by decide +kernel, by decide +kernel⟩, List.mem_of_getElem? (i := 17) (by decide +kernel), List.mem_of_getElem? (i := 281) (by decide +kernel), List.mem_of_getElem? (i := 282) (by decide +kernel)⟩
theorem lw_p1 : lw_okq (⟨"NamesByLot", "ruleFault", "()I"⟩, 11) := ⟨⟨by decide +kernel, by decide +kernel⟩, List.mem_of_getElem? (i := 17) (by decide +kernel), List.mem_of_getElem? (i := 295) (by decide +kernel), List.mem_of_getElem? (i := 296) (by decide +kernel)⟩
theorem lw_p2 : lw_okq (⟨"NamesByLot", "readList", "()V"⟩, 11) := ⟨⟨by decide +kernel, by decide +kernel⟩, List.mem_of_getElem? (i := 17) (by decide +kernel), List.mem_of_getElem? (i := 351) (by decide +kernel), List.mem_of_getElem? (i := 352) (by decide +kernel)⟩
theorem lw_p3 : lw_okq (⟨"NamesByLot$Tally", "addPerson", "(I)V"⟩, 7) := ⟨⟨by decide +kernel, by decide +kernel⟩, List.mem_of_getElem? (i := 134) (by decide +kernel), List.mem_of_getElem? (i := 370) (by decide +kernel), List.mem_of_getElem? (i := 371) (by decide +kernel)⟩
theorem lw_p4 : lw_okq (⟨"NamesByLot$Reckoner", "combine", "(I)Z"⟩, 3) := ⟨⟨by decide +kernel, by decide +kernel⟩, List.mem_of_getElem? (i := 196) (by decide +kernel), List.mem_of_getElem? (i := 410) (by decide +kernel), List.mem_of_getElem? (i := 411) (by decide +kernel)⟩
theorem lw_p5 : lw_okq (⟨"NamesByLot$Reckoner", "put", "(IJJ)Z"⟩, 3) := ⟨⟨by decide +kernel, by decide +kernel⟩, List.mem_of_getElem? (i := 196) (by decide +kernel), List.mem_of_getElem? (i := 414) (by decide +kernel), List.mem_of_getElem? (i := 415) (by decide +kernel)⟩
theorem lw_p6 : lw_okq (⟨"NamesByLot$Reckoner", "push", "(I)Z"⟩, 3) := ⟨⟨by decide +kernel, by decide +kernel⟩, List.mem_of_getElem? (i := 196) (by decide +kernel), List.mem_of_getElem? (i := 424) (by decide +kernel), List.mem_of_getElem? (i := 425) (by decide +kernel)⟩
theorem lw_p7 : lw_okq (⟨"NamesByLot", "lotRefusal", "(II)I"⟩, 11) := ⟨⟨by decide +kernel, by decide +kernel⟩, List.mem_of_getElem? (i := 17) (by decide +kernel), List.mem_of_getElem? (i := 453) (by decide +kernel), List.mem_of_getElem? (i := 454) (by decide +kernel)⟩
theorem lw_p8 : lw_okq (⟨"NamesByLot", "layList", "()V"⟩, 11) := ⟨⟨by decide +kernel, by decide +kernel⟩, List.mem_of_getElem? (i := 17) (by decide +kernel), List.mem_of_getElem? (i := 458) (by decide +kernel), List.mem_of_getElem? (i := 459) (by decide +kernel)⟩
theorem lw_p9 : lw_okq (⟨"NamesByLot$Lots", "write", "(IIJ)V"⟩, 5) := ⟨⟨by decide +kernel, by decide +kernel⟩, List.mem_of_getElem? (i := 167) (by decide +kernel), List.mem_of_getElem? (i := 473) (by decide +kernel), List.mem_of_getElem? (i := 474) (by decide +kernel)⟩
theorem lw_p10 : lw_okq (⟨"NamesByLot$Lots", "people", "(I)I"⟩, 5) := ⟨⟨by decide +kernel, by decide +kernel⟩, List.mem_of_getElem? (i := 167) (by decide +kernel), List.mem_of_getElem? (i := 477) (by decide +kernel), List.mem_of_getElem? (i := 478) (by decide +kernel)⟩
theorem lw_p11 : lw_okq (⟨"NamesByLot$Lots", "read", "(II)J"⟩, 5) := ⟨⟨by decide +kernel, by decide +kernel⟩, List.mem_of_getElem? (i := 167) (by decide +kernel), List.mem_of_getElem? (i := 481) (by decide +kernel), List.mem_of_getElem? (i := 482) (by decide +kernel)⟩
theorem lw_p12 : lw_okq (⟨"NamesByLot", "waysToYes", "(I)J"⟩, 11) := ⟨⟨by decide +kernel, by decide +kernel⟩, List.mem_of_getElem? (i := 17) (by decide +kernel), List.mem_of_getElem? (i := 486) (by decide +kernel), List.mem_of_getElem? (i := 487) (by decide +kernel)⟩
theorem lw_p13 : lw_okq (⟨"NamesByLot", "filledSheets", "()I"⟩, 11) := ⟨⟨by decide +kernel, by decide +kernel⟩, List.mem_of_getElem? (i := 17) (by decide +kernel), List.mem_of_getElem? (i := 522) (by decide +kernel), List.mem_of_getElem? (i := 523) (by decide +kernel)⟩
theorem lw_p14 : lw_okq (⟨"NamesByLot", "sheetWaysToYes", "(II)I"⟩, 11) := ⟨⟨by decide +kernel, by decide +kernel⟩, List.mem_of_getElem? (i := 17) (by decide +kernel), List.mem_of_getElem? (i := 537) (by decide +kernel), List.mem_of_getElem? (i := 538) (by decide +kernel)⟩
theorem lw_p15 : lw_okq (⟨"NamesByLot", "someSaysYes", "()Z"⟩, 11) := ⟨⟨by decide +kernel, by decide +kernel⟩, List.mem_of_getElem? (i := 17) (by decide +kernel), List.mem_of_getElem? (i := 541) (by decide +kernel), List.mem_of_getElem? (i := 542) (by decide +kernel)⟩
def lw_privs_1 : List (MethodName × Nat) := [(⟨"NamesByLot", "namesFault", "()I"⟩, 11), (⟨"NamesByLot", "ruleFault", "()I"⟩, 11), (⟨"NamesByLot", "readList", "()V"⟩, 11), (⟨"NamesByLot$Tally", "addPerson", "(I)V"⟩, 7), (⟨"NamesByLot$Reckoner", "combine", "(I)Z"⟩, 3), (⟨"NamesByLot$Reckoner", "put", "(IJJ)Z"⟩, 3), (⟨"NamesByLot$Reckoner", "push", "(I)Z"⟩, 3), (⟨"NamesByLot", "lotRefusal", "(II)I"⟩, 11), (⟨"NamesByLot", "layList", "()V"⟩, 11), (⟨"NamesByLot$Lots", "write", "(IIJ)V"⟩, 5), (⟨"NamesByLot$Lots", "people", "(I)I"⟩, 5), (⟨"NamesByLot$Lots", "read", "(II)J"⟩, 5), (⟨"NamesByLot", "waysToYes", "(I)J"⟩, 11), (⟨"NamesByLot", "filledSheets", "()I"⟩, 11), (⟨"NamesByLot", "sheetWaysToYes", "(II)I"⟩, 11), (⟨"NamesByLot", "someSaysYes", "()Z"⟩, 11)]
theorem lw_r1 : ∀ q ∈ lw_privs_1, lw_okq q := List.forall_mem_cons.mpr ⟨lw_p0, List.forall_mem_cons.mpr ⟨lw_p1, List.forall_mem_cons.mpr ⟨lw_p2, List.forall_mem_cons.mpr ⟨lw_p3, List.forall_mem_cons.mpr ⟨lw_p4, List.forall_mem_cons.mpr ⟨lw_p5, List.forall_mem_cons.mpr ⟨lw_p6, List.forall_mem_cons.mpr ⟨lw_p7, List.forall_mem_cons.mpr ⟨lw_p8, List.forall_mem_cons.mpr ⟨lw_p9, List.forall_mem_cons.mpr ⟨lw_p10, List.forall_mem_cons.mpr ⟨lw_p11, List.forall_mem_cons.mpr ⟨lw_p12, List.forall_mem_cons.mpr ⟨lw_p13, List.forall_mem_cons.mpr ⟨lw_p14, List.forall_mem_cons.mpr ⟨lw_p15, fun _ h => absurd h List.not_mem_nil⟩⟩⟩⟩⟩⟩⟩⟩⟩⟩⟩⟩⟩⟩⟩⟩
theorem lw_p16 : lw_okq (⟨"NamesByLot", "waysToBeWrong", "(I)J"⟩, 11) := ⟨⟨by decide +kernel, by decide +kernel⟩, List.mem_of_getElem? (i := 17) (by decide +kernel), List.mem_of_getElem? (i := 553) (by decide +kernel), List.mem_of_getElem? (i := 554) (by decide +kernel)⟩
theorem lw_p17 : lw_okq (⟨"NamesByLot", "sheetsOf", "(I)I"⟩, 11) := ⟨⟨by decide +kernel, by decide +kernel⟩, List.mem_of_getElem? (i := 17) (by decide +kernel), List.mem_of_getElem? (i := 581) (by decide +kernel), List.mem_of_getElem? (i := 582) (by decide +kernel)⟩
theorem lw_p18 : lw_okq (⟨"NamesByLot", "oddsByLot", "(ILNamesByLot$Fraction;)V"⟩, 11) := ⟨⟨by decide +kernel, by decide +kernel⟩, List.mem_of_getElem? (i := 17) (by decide +kernel), List.mem_of_getElem? (i := 591) (by decide +kernel), List.mem_of_getElem? (i := 592) (by decide +kernel)⟩
theorem lw_p19 : lw_okq (⟨"NamesByLot", "hasNames", "(I)Z"⟩, 11) := ⟨⟨by decide +kernel, by decide +kernel⟩, List.mem_of_getElem? (i := 17) (by decide +kernel), List.mem_of_getElem? (i := 599) (by decide +kernel), List.mem_of_getElem? (i := 600) (by decide +kernel)⟩
theorem lw_p20 : lw_okq (⟨"NamesByLot", "gatherersWithNames", "()I"⟩, 11) := ⟨⟨by decide +kernel, by decide +kernel⟩, List.mem_of_getElem? (i := 17) (by decide +kernel), List.mem_of_getElem? (i := 611) (by decide +kernel), List.mem_of_getElem? (i := 612) (by decide +kernel)⟩
theorem lw_p21 : lw_okq (⟨"NamesByLot", "lossWithout", "(I)I"⟩, 11) := ⟨⟨by decide +kernel, by decide +kernel⟩, List.mem_of_getElem? (i := 17) (by decide +kernel), List.mem_of_getElem? (i := 630) (by decide +kernel), List.mem_of_getElem? (i := 631) (by decide +kernel)⟩
theorem lw_p22 : lw_okq (⟨"NamesByLot", "drawHeap", "(II)V"⟩, 11) := ⟨⟨by decide +kernel, by decide +kernel⟩, List.mem_of_getElem? (i := 17) (by decide +kernel), List.mem_of_getElem? (i := 647) (by decide +kernel), List.mem_of_getElem? (i := 648) (by decide +kernel)⟩
theorem lw_p23 : lw_okq (⟨"NamesByLot", "numberList", "()I"⟩, 11) := ⟨⟨by decide +kernel, by decide +kernel⟩, List.mem_of_getElem? (i := 17) (by decide +kernel), List.mem_of_getElem? (i := 651) (by decide +kernel), List.mem_of_getElem? (i := 652) (by decide +kernel)⟩
theorem lw_p24 : lw_okq (⟨"NamesByLot", "takeOut", "(II)I"⟩, 11) := ⟨⟨by decide +kernel, by decide +kernel⟩, List.mem_of_getElem? (i := 17) (by decide +kernel), List.mem_of_getElem? (i := 657) (by decide +kernel), List.mem_of_getElem? (i := 658) (by decide +kernel)⟩
theorem lw_p25 : lw_okq (⟨"NamesByLot", "imageOf", "(I)LNamesByLot$Register;"⟩, 11) := ⟨⟨by decide +kernel, by decide +kernel⟩, List.mem_of_getElem? (i := 17) (by decide +kernel), List.mem_of_getElem? (i := 666) (by decide +kernel), List.mem_of_getElem? (i := 667) (by decide +kernel)⟩
theorem lw_p26 : lw_okq (⟨"NamesByLotModel", "namesFault", "()I"⟩, 28) := ⟨⟨by decide +kernel, by decide +kernel⟩, List.mem_of_getElem? (i := 690) (by decide +kernel), List.mem_of_getElem? (i := 797) (by decide +kernel), List.mem_of_getElem? (i := 798) (by decide +kernel)⟩
theorem lw_p27 : lw_okq (⟨"NamesByLotModel", "ruleFault", "()I"⟩, 28) := ⟨⟨by decide +kernel, by decide +kernel⟩, List.mem_of_getElem? (i := 690) (by decide +kernel), List.mem_of_getElem? (i := 807) (by decide +kernel), List.mem_of_getElem? (i := 808) (by decide +kernel)⟩
theorem lw_p28 : lw_okq (⟨"NamesByLotModel", "valid", "()I"⟩, 28) := ⟨⟨by decide +kernel, by decide +kernel⟩, List.mem_of_getElem? (i := 690) (by decide +kernel), List.mem_of_getElem? (i := 833) (by decide +kernel), List.mem_of_getElem? (i := 834) (by decide +kernel)⟩
theorem lw_p29 : lw_okq (⟨"NamesByLotModel", "layList", "(I)V"⟩, 28) := ⟨⟨by decide +kernel, by decide +kernel⟩, List.mem_of_getElem? (i := 690) (by decide +kernel), List.mem_of_getElem? (i := 837) (by decide +kernel), List.mem_of_getElem? (i := 838) (by decide +kernel)⟩
theorem lw_p30 : lw_okq (⟨"NamesByLotModel", "good", "()I"⟩, 28) := ⟨⟨by decide +kernel, by decide +kernel⟩, List.mem_of_getElem? (i := 690) (by decide +kernel), List.mem_of_getElem? (i := 841) (by decide +kernel), List.mem_of_getElem? (i := 842) (by decide +kernel)⟩
theorem lw_p31 : lw_okq (⟨"NamesByLotModel", "comesTo", "(IIII)Z"⟩, 28) := ⟨⟨by decide +kernel, by decide +kernel⟩, List.mem_of_getElem? (i := 690) (by decide +kernel), List.mem_of_getElem? (i := 861) (by decide +kernel), List.mem_of_getElem? (i := 862) (by decide +kernel)⟩
def lw_privs_2 : List (MethodName × Nat) := [(⟨"NamesByLot", "waysToBeWrong", "(I)J"⟩, 11), (⟨"NamesByLot", "sheetsOf", "(I)I"⟩, 11), (⟨"NamesByLot", "oddsByLot", "(ILNamesByLot$Fraction;)V"⟩, 11), (⟨"NamesByLot", "hasNames", "(I)Z"⟩, 11), (⟨"NamesByLot", "gatherersWithNames", "()I"⟩, 11), (⟨"NamesByLot", "lossWithout", "(I)I"⟩, 11), (⟨"NamesByLot", "drawHeap", "(II)V"⟩, 11), (⟨"NamesByLot", "numberList", "()I"⟩, 11), (⟨"NamesByLot", "takeOut", "(II)I"⟩, 11), (⟨"NamesByLot", "imageOf", "(I)LNamesByLot$Register;"⟩, 11), (⟨"NamesByLotModel", "namesFault", "()I"⟩, 28), (⟨"NamesByLotModel", "ruleFault", "()I"⟩, 28), (⟨"NamesByLotModel", "valid", "()I"⟩, 28), (⟨"NamesByLotModel", "layList", "(I)V"⟩, 28), (⟨"NamesByLotModel", "good", "()I"⟩, 28), (⟨"NamesByLotModel", "comesTo", "(IIII)Z"⟩, 28)]
theorem lw_r2 : ∀ q ∈ lw_privs_2, lw_okq q := List.forall_mem_cons.mpr ⟨lw_p16, List.forall_mem_cons.mpr ⟨lw_p17, List.forall_mem_cons.mpr ⟨lw_p18, List.forall_mem_cons.mpr ⟨lw_p19, List.forall_mem_cons.mpr ⟨lw_p20, List.forall_mem_cons.mpr ⟨lw_p21, List.forall_mem_cons.mpr ⟨lw_p22, List.forall_mem_cons.mpr ⟨lw_p23, List.forall_mem_cons.mpr ⟨lw_p24, List.forall_mem_cons.mpr ⟨lw_p25, List.forall_mem_cons.mpr ⟨lw_p26, List.forall_mem_cons.mpr ⟨lw_p27, List.forall_mem_cons.mpr ⟨lw_p28, List.forall_mem_cons.mpr ⟨lw_p29, List.forall_mem_cons.mpr ⟨lw_p30, List.forall_mem_cons.mpr ⟨lw_p31, fun _ h => absurd h List.not_mem_nil⟩⟩⟩⟩⟩⟩⟩⟩⟩⟩⟩⟩⟩⟩⟩⟩
theorem lw_p32 : lw_okq (⟨"NamesByLotModel", "barOfLot", "(IZ)I"⟩, 28) := ⟨⟨by decide +kernel, by decide +kernel⟩, List.mem_of_getElem? (i := 690) (by decide +kernel), List.mem_of_getElem? (i := 873) (by decide +kernel), List.mem_of_getElem? (i := 874) (by decide +kernel)⟩
theorem lw_p33 : lw_okq (⟨"NamesByLotModel", "yesNow", "(I)J"⟩, 28) := ⟨⟨by decide +kernel, by decide +kernel⟩, List.mem_of_getElem? (i := 690) (by decide +kernel), List.mem_of_getElem? (i := 878) (by decide +kernel), List.mem_of_getElem? (i := 879) (by decide +kernel)⟩
theorem lw_p34 : lw_okq (⟨"NamesByLotModel", "yesOf", "(IIII)J"⟩, 28) := ⟨⟨by decide +kernel, by decide +kernel⟩, List.mem_of_getElem? (i := 690) (by decide +kernel), List.mem_of_getElem? (i := 882) (by decide +kernel), List.mem_of_getElem? (i := 883) (by decide +kernel)⟩
theorem lw_p35 : lw_okq (⟨"NamesByLotModel", "ways", "(II)J"⟩, 28) := ⟨⟨by decide +kernel, by decide +kernel⟩, List.mem_of_getElem? (i := 690) (by decide +kernel), List.mem_of_getElem? (i := 886) (by decide +kernel), List.mem_of_getElem? (i := 887) (by decide +kernel)⟩
theorem lw_p36 : lw_okq (⟨"NamesByLotModel", "lotsOf", "(IIII)J"⟩, 28) := ⟨⟨by decide +kernel, by decide +kernel⟩, List.mem_of_getElem? (i := 690) (by decide +kernel), List.mem_of_getElem? (i := 890) (by decide +kernel), List.mem_of_getElem? (i := 891) (by decide +kernel)⟩
theorem lw_p37 : lw_okq (⟨"NamesByLotModel", "saysYes", "(IIII)Z"⟩, 28) := ⟨⟨by decide +kernel, by decide +kernel⟩, List.mem_of_getElem? (i := 690) (by decide +kernel), List.mem_of_getElem? (i := 894) (by decide +kernel), List.mem_of_getElem? (i := 895) (by decide +kernel)⟩
theorem lw_p38 : lw_okq (⟨"NamesByLotModel", "wrongNow", "(I)J"⟩, 28) := ⟨⟨by decide +kernel, by decide +kernel⟩, List.mem_of_getElem? (i := 690) (by decide +kernel), List.mem_of_getElem? (i := 913) (by decide +kernel), List.mem_of_getElem? (i := 914) (by decide +kernel)⟩
theorem lw_p39 : lw_okq (⟨"NamesByLotModel", "layHis", "(I)V"⟩, 28) := ⟨⟨by decide +kernel, by decide +kernel⟩, List.mem_of_getElem? (i := 690) (by decide +kernel), List.mem_of_getElem? (i := 933) (by decide +kernel), List.mem_of_getElem? (i := 934) (by decide +kernel)⟩
theorem lw_p40 : lw_okq (⟨"NamesByLotModel", "laySeems", "(I)V"⟩, 28) := ⟨⟨by decide +kernel, by decide +kernel⟩, List.mem_of_getElem? (i := 690) (by decide +kernel), List.mem_of_getElem? (i := 942) (by decide +kernel), List.mem_of_getElem? (i := 943) (by decide +kernel)⟩
theorem lw_p41 : lw_okq (⟨"NamesByLotModel", "isOverfull", "()Z"⟩, 28) := ⟨⟨by decide +kernel, by decide +kernel⟩, List.mem_of_getElem? (i := 690) (by decide +kernel), List.mem_of_getElem? (i := 969) (by decide +kernel), List.mem_of_getElem? (i := 970) (by decide +kernel)⟩
theorem lw_p42 : lw_okq (⟨"NamesByLotModel", "lossOf", "(I)I"⟩, 28) := ⟨⟨by decide +kernel, by decide +kernel⟩, List.mem_of_getElem? (i := 690) (by decide +kernel), List.mem_of_getElem? (i := 973) (by decide +kernel), List.mem_of_getElem? (i := 974) (by decide +kernel)⟩
def lw_privs_3 : List (MethodName × Nat) := [(⟨"NamesByLotModel", "barOfLot", "(IZ)I"⟩, 28), (⟨"NamesByLotModel", "yesNow", "(I)J"⟩, 28), (⟨"NamesByLotModel", "yesOf", "(IIII)J"⟩, 28), (⟨"NamesByLotModel", "ways", "(II)J"⟩, 28), (⟨"NamesByLotModel", "lotsOf", "(IIII)J"⟩, 28), (⟨"NamesByLotModel", "saysYes", "(IIII)Z"⟩, 28), (⟨"NamesByLotModel", "wrongNow", "(I)J"⟩, 28), (⟨"NamesByLotModel", "layHis", "(I)V"⟩, 28), (⟨"NamesByLotModel", "laySeems", "(I)V"⟩, 28), (⟨"NamesByLotModel", "isOverfull", "()Z"⟩, 28), (⟨"NamesByLotModel", "lossOf", "(I)I"⟩, 28)]
theorem lw_r3 : ∀ q ∈ lw_privs_3, lw_okq q := List.forall_mem_cons.mpr ⟨lw_p32, List.forall_mem_cons.mpr ⟨lw_p33, List.forall_mem_cons.mpr ⟨lw_p34, List.forall_mem_cons.mpr ⟨lw_p35, List.forall_mem_cons.mpr ⟨lw_p36, List.forall_mem_cons.mpr ⟨lw_p37, List.forall_mem_cons.mpr ⟨lw_p38, List.forall_mem_cons.mpr ⟨lw_p39, List.forall_mem_cons.mpr ⟨lw_p40, List.forall_mem_cons.mpr ⟨lw_p41, List.forall_mem_cons.mpr ⟨lw_p42, fun _ h => absurd h List.not_mem_nil⟩⟩⟩⟩⟩⟩⟩⟩⟩⟩⟩
def lw_privs : List (MethodName × Nat) := lw_privs_1 ++ (lw_privs_2 ++ (lw_privs_3))
def lw_tbl : List Cond := k2_sels lw_privs ++ tables_1
theorem lw_privs_ok : ∀ q ∈ lw_privs, lw_okq q := by
  show ∀ q ∈ lw_privs_1 ++ (lw_privs_2 ++ (lw_privs_3)), lw_okq q
  exact List.forall_mem_append.mpr ⟨lw_r1, List.forall_mem_append.mpr ⟨lw_r2, lw_r3⟩⟩
-- ===== end of PART A; then your names; then what follows =====
def RX0 : String := "NamesByLot$Fraction"
def TX0 : u_T := fun k => match k with
  | 0 => ("NamesByLot$Fraction", "upper", "J", false)
  | _ => ("NamesByLot$Fraction", "lower", "J", false)
def tyX0 : Nat → FieldType := fun k => match k with
  | 0 => .long
  | _ => .long
abbrev wsX00 : List Cond := u_ws RX0 TX0 2
theorem nmX0 : ∀ a, a < 2 → ∀ b, b < 2 → a ≠ b → (TX0 a).2.1 ≠ (TX0 b).2.1 := by decide +kernel
theorem tyX0_ok : ∀ k, k < 2 → parseFieldDescriptor (TX0 k).2.2.1 = some (tyX0 k) := by decide +kernel
abbrev cX0_init : ByteArray := prog_2_method_1_code
def yX0_init : MethodName := ⟨RX0, "<init>", "()V"⟩
abbrev cX0_become : ByteArray := prog_2_method_2_code
def yX0_become : MethodName := ⟨RX0, "become", "(JJ)V"⟩
abbrev cX0_half : ByteArray := prog_2_method_3_code
def yX0_half : MethodName := ⟨RX0, "half", "(I)J"⟩
abbrev cX0_lessen : ByteArray := prog_2_method_4_code
def yX0_lessen : MethodName := ⟨RX0, "lessen", "(LNamesByLot$Fraction;)V"⟩
abbrev cX0_isLessThan : ByteArray := prog_2_method_5_code
def yX0_isLessThan : MethodName := ⟨RX0, "isLessThan", "(LNamesByLot$Fraction;)Z"⟩
abbrev cX0_commonDivisor : ByteArray := prog_2_method_6_code
def yX0_commonDivisor : MethodName := ⟨RX0, "commonDivisor", "(JJ)J"⟩
def RX1 : String := "NamesByLot$Lots"
def TX1 : u_T := fun k => match k with
  | 0 => ("NamesByLot$Lots", "pascal", "[J", true)
  | 1 => ("NamesByLot$Lots", "undoubled", "[J", true)
  | 2 => ("NamesByLot$Lots", "singles", "I", false)
  | 3 => ("NamesByLot$Lots", "bad", "I", false)
  | _ => ("NamesByLot$Lots", "pairs", "I", false)
def tyX1 : Nat → FieldType := fun k => match k with
  | 0 => .array .long
  | 1 => .array .long
  | 2 => .int
  | 3 => .int
  | _ => .int
abbrev wsX10 : List Cond := u_ws RX1 TX1 5
theorem nmX1 : ∀ a, a < 5 → ∀ b, b < 5 → a ≠ b → (TX1 a).2.1 ≠ (TX1 b).2.1 := by decide +kernel
theorem tyX1_ok : ∀ k, k < 5 → parseFieldDescriptor (TX1 k).2.2.1 = some (tyX1 k) := by decide +kernel
abbrev cX1_init : ByteArray := prog_3_method_1_code
def yX1_init : MethodName := ⟨RX1, "<init>", "()V"⟩
abbrev cX1_choose : ByteArray := prog_3_method_2_code
def yX1_choose : MethodName := ⟨RX1, "choose", "(II)J"⟩
abbrev cX1_lay : ByteArray := prog_3_method_3_code
def yX1_lay : MethodName := ⟨RX1, "lay", "(III)V"⟩
abbrev cX1_valid : ByteArray := prog_3_method_4_code
def yX1_valid : MethodName := ⟨RX1, "valid", "()I"⟩
abbrev cX1_all : ByteArray := prog_3_method_5_code
def yX1_all : MethodName := ⟨RX1, "all", "()I"⟩
abbrev cX1_leastDoubles : ByteArray := prog_3_method_6_code
def yX1_leastDoubles : MethodName := ⟨RX1, "leastDoubles", "(I)I"⟩
abbrev cX1_ways : ByteArray := prog_3_method_7_code
def yX1_ways : MethodName := ⟨RX1, "ways", "(III)J"⟩
abbrev cX1_people : ByteArray := prog_3_method_8_code
def yX1_people : MethodName := ⟨RX1, "people", "(I)I"⟩
abbrev cX1_read : ByteArray := prog_3_method_9_code
def yX1_read : MethodName := ⟨RX1, "read", "(II)J"⟩
abbrev cX1_write : ByteArray := prog_3_method_10_code
def yX1_write : MethodName := ⟨RX1, "write", "(IIJ)V"⟩
def RX2 : String := "NamesByLot$Reckoner"
def TX2 : u_T := fun k => match k with
  | 0 => ("NamesByLot$Reckoner", "uppers", "[J", true)
  | 1 => ("NamesByLot$Reckoner", "lowers", "[J", true)
  | _ => ("NamesByLot$Reckoner", "depth", "I", false)
def tyX2 : Nat → FieldType := fun k => match k with
  | 0 => .array .long
  | 1 => .array .long
  | _ => .int
abbrev wsX20 : List Cond := u_ws RX2 TX2 3
theorem nmX2 : ∀ a, a < 3 → ∀ b, b < 3 → a ≠ b → (TX2 a).2.1 ≠ (TX2 b).2.1 := by decide +kernel
theorem tyX2_ok : ∀ k, k < 3 → parseFieldDescriptor (TX2 k).2.2.1 = some (tyX2 k) := by decide +kernel
abbrev cX2_init : ByteArray := prog_4_method_1_code
def yX2_init : MethodName := ⟨RX2, "<init>", "()V"⟩
abbrev cX2_reckon : ByteArray := prog_4_method_2_code
def yX2_reckon : MethodName := ⟨RX2, "reckon", "(LNamesByLot$Text;IIII)Z"⟩
abbrev cX2_reachesNeed : ByteArray := prog_4_method_3_code
def yX2_reachesNeed : MethodName := ⟨RX2, "reachesNeed", "(LNamesByLot$Register;IIII)Z"⟩
abbrev cX2_upper : ByteArray := prog_4_method_4_code
def yX2_upper : MethodName := ⟨RX2, "upper", "()J"⟩
abbrev cX2_lower : ByteArray := prog_4_method_5_code
def yX2_lower : MethodName := ⟨RX2, "lower", "()J"⟩
abbrev cX2_valueOf : ByteArray := prog_4_method_6_code
def yX2_valueOf : MethodName := ⟨RX2, "valueOf", "(IIIII)I"⟩
abbrev cX2_push : ByteArray := prog_4_method_7_code
def yX2_push : MethodName := ⟨RX2, "push", "(I)Z"⟩
abbrev cX2_combine : ByteArray := prog_4_method_8_code
def yX2_combine : MethodName := ⟨RX2, "combine", "(I)Z"⟩
abbrev cX2_put : ByteArray := prog_4_method_9_code
def yX2_put : MethodName := ⟨RX2, "put", "(IJJ)Z"⟩
def RX3 : String := "NamesByLot$Register"
def TX3 : u_T := fun k => match k with
  | 0 => ("NamesByLot$Register", "signs", "[I", true)
  | 1 => ("NamesByLot$Register", "sizes", "[I", true)
  | 2 => ("NamesByLot$Register", "gatherers", "[I", true)
  | 3 => ("NamesByLot$Register", "formula", "LNamesByLot$Text;", true)
  | 4 => ("NamesByLot$Register", "struck", "I", false)
  | 5 => ("NamesByLot$Register", "needed", "I", false)
  | _ => ("NamesByLot$Register", "kept", "Z", false)
def tyX3 : Nat → FieldType := fun k => match k with
  | 0 => .array .int
  | 1 => .array .int
  | 2 => .array .int
  | 3 => .object "NamesByLot$Text"
  | 4 => .int
  | 5 => .int
  | _ => .boolean
abbrev wsX30 : List Cond := u_ws RX3 TX3 7
theorem nmX3 : ∀ a, a < 7 → ∀ b, b < 7 → a ≠ b → (TX3 a).2.1 ≠ (TX3 b).2.1 := by decide +kernel
theorem tyX3_ok : ∀ k, k < 7 → parseFieldDescriptor (TX3 k).2.2.1 = some (tyX3 k) := by decide +kernel
abbrev cX3_init : ByteArray := prog_5_method_1_code
def yX3_init : MethodName := ⟨RX3, "<init>", "()V"⟩
abbrev cX3_become : ByteArray := prog_5_method_2_code
def yX3_become : MethodName := ⟨RX3, "become", "(LNamesByLot$Register;)V"⟩
abbrev cX3_copy : ByteArray := prog_5_method_3_code
def yX3_copy : MethodName := ⟨RX3, "copy", "([I[I)V"⟩
abbrev cX3_sizeOf : ByteArray := prog_5_method_4_code
def yX3_sizeOf : MethodName := ⟨RX3, "sizeOf", "(I)I"⟩
abbrev cX3_signOf : ByteArray := prog_5_method_5_code
def yX3_signOf : MethodName := ⟨RX3, "signOf", "(II)I"⟩
abbrev cX3_fillSheet : ByteArray := prog_5_method_6_code
def yX3_fillSheet : MethodName := ⟨RX3, "fillSheet", "(ILNamesByLot$Text;)V"⟩
abbrev cX3_gathererOf : ByteArray := prog_5_method_7_code
def yX3_gathererOf : MethodName := ⟨RX3, "gathererOf", "(I)I"⟩
abbrev cX3_giveTo : ByteArray := prog_5_method_8_code
def yX3_giveTo : MethodName := ⟨RX3, "giveTo", "(II)I"⟩
abbrev cX3_isStruck : ByteArray := prog_5_method_9_code
def yX3_isStruck : MethodName := ⟨RX3, "isStruck", "(I)Z"⟩
abbrev cX3_strikeOut : ByteArray := prog_5_method_10_code
def yX3_strikeOut : MethodName := ⟨RX3, "strikeOut", "(II)I"⟩
def RX4 : String := "NamesByLot$Tally"
def TX4 : u_T := fun k => match k with
  | 0 => ("NamesByLot$Tally", "seen", "[I", true)
  | 1 => ("NamesByLot$Tally", "all", "I", false)
  | 2 => ("NamesByLot$Tally", "bad", "I", false)
  | 3 => ("NamesByLot$Tally", "dots", "I", false)
  | 4 => ("NamesByLot$Tally", "once", "I", false)
  | 5 => ("NamesByLot$Tally", "pairs", "I", false)
  | _ => ("NamesByLot$Tally", "overfull", "Z", false)
def tyX4 : Nat → FieldType := fun k => match k with
  | 0 => .array .int
  | 1 => .int
  | 2 => .int
  | 3 => .int
  | 4 => .int
  | 5 => .int
  | _ => .boolean
abbrev wsX40 : List Cond := u_ws RX4 TX4 7
theorem nmX4 : ∀ a, a < 7 → ∀ b, b < 7 → a ≠ b → (TX4 a).2.1 ≠ (TX4 b).2.1 := by decide +kernel
theorem tyX4_ok : ∀ k, k < 7 → parseFieldDescriptor (TX4 k).2.2.1 = some (tyX4 k) := by decide +kernel
abbrev cX4_init : ByteArray := prog_6_method_1_code
def yX4_init : MethodName := ⟨RX4, "<init>", "()V"⟩
abbrev cX4_clear : ByteArray := prog_6_method_2_code
def yX4_clear : MethodName := ⟨RX4, "clear", "()V"⟩
abbrev cX4_readSheets : ByteArray := prog_6_method_3_code
def yX4_readSheets : MethodName := ⟨RX4, "readSheets", "(LNamesByLot$Register;I)V"⟩
abbrev cX4_add : ByteArray := prog_6_method_4_code
def yX4_add : MethodName := ⟨RX4, "add", "(I)V"⟩
abbrev cX4_addPerson : ByteArray := prog_6_method_5_code
def yX4_addPerson : MethodName := ⟨RX4, "addPerson", "(I)V"⟩
abbrev cX4_valid : ByteArray := prog_6_method_6_code
def yX4_valid : MethodName := ⟨RX4, "valid", "()I"⟩
abbrev cX4_singles : ByteArray := prog_6_method_7_code
def yX4_singles : MethodName := ⟨RX4, "singles", "()I"⟩
abbrev cX4_good : ByteArray := prog_6_method_8_code
def yX4_good : MethodName := ⟨RX4, "good", "()I"⟩
def RX5 : String := "NamesByLot$Text"
def TX5 : u_T := fun k => match k with
  | 0 => ("NamesByLot$Text", "signs", "[I", true)
  | _ => ("NamesByLot$Text", "size", "I", false)
def tyX5 : Nat → FieldType := fun k => match k with
  | 0 => .array .int
  | _ => .int
abbrev wsX50 : List Cond := u_ws RX5 TX5 2
theorem nmX5 : ∀ a, a < 2 → ∀ b, b < 2 → a ≠ b → (TX5 a).2.1 ≠ (TX5 b).2.1 := by decide +kernel
theorem tyX5_ok : ∀ k, k < 2 → parseFieldDescriptor (TX5 k).2.2.1 = some (tyX5 k) := by decide +kernel
abbrev cX5_init : ByteArray := prog_7_method_1_code
def yX5_init : MethodName := ⟨RX5, "<init>", "(I)V"⟩
abbrev cX5_append : ByteArray := prog_7_method_2_code
def yX5_append : MethodName := ⟨RX5, "append", "(I)Z"⟩
abbrev cX5_clear : ByteArray := prog_7_method_3_code
def yX5_clear : MethodName := ⟨RX5, "clear", "()V"⟩
abbrev cX5_signAt : ByteArray := prog_7_method_4_code
def yX5_signAt : MethodName := ⟨RX5, "signAt", "(I)I"⟩
abbrev cX5_become : ByteArray := prog_7_method_5_code
def yX5_become : MethodName := ⟨RX5, "become", "(LNamesByLot$Text;)V"⟩
def RX6 : String := "NamesByLot"
def TX6 : u_T := fun k => match k with
  | 0 => ("NamesByLot", "pad", "LNamesByLot$Text;", true)
  | 1 => ("NamesByLot", "now", "LNamesByLot$Register;", true)
  | 2 => ("NamesByLot", "firstImage", "LNamesByLot$Register;", true)
  | 3 => ("NamesByLot", "secondImage", "LNamesByLot$Register;", true)
  | 4 => ("NamesByLot", "list", "LNamesByLot$Tally;", true)
  | 5 => ("NamesByLot", "some", "LNamesByLot$Tally;", true)
  | 6 => ("NamesByLot", "lots", "LNamesByLot$Lots;", true)
  | 7 => ("NamesByLot", "reckoner", "LNamesByLot$Reckoner;", true)
  | 8 => ("NamesByLot", "result", "LNamesByLot$Fraction;", true)
  | 9 => ("NamesByLot", "other", "LNamesByLot$Fraction;", true)
  | _ => ("NamesByLot", "left", "[I", true)
def tyX6 : Nat → FieldType := fun k => match k with
  | 0 => .object "NamesByLot$Text"
  | 1 => .object "NamesByLot$Register"
  | 2 => .object "NamesByLot$Register"
  | 3 => .object "NamesByLot$Register"
  | 4 => .object "NamesByLot$Tally"
  | 5 => .object "NamesByLot$Tally"
  | 6 => .object "NamesByLot$Lots"
  | 7 => .object "NamesByLot$Reckoner"
  | 8 => .object "NamesByLot$Fraction"
  | 9 => .object "NamesByLot$Fraction"
  | _ => .array .int
abbrev wsX60 : List Cond := u_ws RX6 TX6 11
theorem nmX6 : ∀ a, a < 11 → ∀ b, b < 11 → a ≠ b → (TX6 a).2.1 ≠ (TX6 b).2.1 := by decide +kernel
theorem tyX6_ok : ∀ k, k < 11 → parseFieldDescriptor (TX6 k).2.2.1 = some (tyX6 k) := by decide +kernel
abbrev cX6_init : ByteArray := prog_1_method_1_code
def yX6_init : MethodName := ⟨RX6, "<init>", "()V"⟩
abbrev cX6_say : ByteArray := prog_1_method_2_code
def yX6_say : MethodName := ⟨RX6, "say", "(I)I"⟩
abbrev cX6_wipe : ByteArray := prog_1_method_3_code
def yX6_wipe : MethodName := ⟨RX6, "wipe", "()I"⟩
abbrev cX6_fault : ByteArray := prog_1_method_4_code
def yX6_fault : MethodName := ⟨RX6, "fault", "(I)I"⟩
abbrev cX6_names : ByteArray := prog_1_method_5_code
def yX6_names : MethodName := ⟨RX6, "names", "(I)I"⟩
abbrev cX6_set : ByteArray := prog_1_method_6_code
def yX6_set : MethodName := ⟨RX6, "set", "(III)I"⟩
abbrev cX6_sheet : ByteArray := prog_1_method_7_code
def yX6_sheet : MethodName := ⟨RX6, "sheet", "(II)I"⟩
abbrev cX6_count : ByteArray := prog_1_method_8_code
def yX6_count : MethodName := ⟨RX6, "count", "(I)I"⟩
abbrev cX6_need : ByteArray := prog_1_method_9_code
def yX6_need : MethodName := ⟨RX6, "need", "(I)I"⟩
abbrev cX6_rule : ByteArray := prog_1_method_10_code
def yX6_rule : MethodName := ⟨RX6, "rule", "()I"⟩
abbrev cX6_comes : ByteArray := prog_1_method_11_code
def yX6_comes : MethodName := ⟨RX6, "comes", "(IIIII)J"⟩
abbrev cX6_yes : ByteArray := prog_1_method_12_code
def yX6_yes : MethodName := ⟨RX6, "yes", "(II)J"⟩
abbrev cX6_bySheets : ByteArray := prog_1_method_13_code
def yX6_bySheets : MethodName := ⟨RX6, "bySheets", "(II)J"⟩
abbrev cX6_wrong : ByteArray := prog_1_method_14_code
def yX6_wrong : MethodName := ⟨RX6, "wrong", "(II)J"⟩
abbrev cX6_enough : ByteArray := prog_1_method_15_code
def yX6_enough : MethodName := ⟨RX6, "enough", "(I)I"⟩
abbrev cX6_worth : ByteArray := prog_1_method_16_code
def yX6_worth : MethodName := ⟨RX6, "worth", "(IIII)J"⟩
abbrev cX6_gatherer : ByteArray := prog_1_method_17_code
def yX6_gatherer : MethodName := ⟨RX6, "gatherer", "(II)I"⟩
abbrev cX6_seems : ByteArray := prog_1_method_18_code
def yX6_seems : MethodName := ⟨RX6, "seems", "(II)J"⟩
abbrev cX6_suspect : ByteArray := prog_1_method_19_code
def yX6_suspect : MethodName := ⟨RX6, "suspect", "()I"⟩
abbrev cX6_shared : ByteArray := prog_1_method_20_code
def yX6_shared : MethodName := ⟨RX6, "shared", "(II)J"⟩
abbrev cX6_fine : ByteArray := prog_1_method_21_code
def yX6_fine : MethodName := ⟨RX6, "fine", "(III)I"⟩
abbrev cX6_word : ByteArray := prog_1_method_22_code
def yX6_word : MethodName := ⟨RX6, "word", "(III)J"⟩
abbrev cX6_strike : ByteArray := prog_1_method_23_code
def yX6_strike : MethodName := ⟨RX6, "strike", "(I)I"⟩
abbrev cX6_worst : ByteArray := prog_1_method_24_code
def yX6_worst : MethodName := ⟨RX6, "worst", "()I"⟩
abbrev cX6_against : ByteArray := prog_1_method_25_code
def yX6_against : MethodName := ⟨RX6, "against", "(II)I"⟩
abbrev cX6_heap : ByteArray := prog_1_method_26_code
def yX6_heap : MethodName := ⟨RX6, "heap", "(III)I"⟩
abbrev cX6_image : ByteArray := prog_1_method_27_code
def yX6_image : MethodName := ⟨RX6, "image", "(I)I"⟩
abbrev cX6_restore : ByteArray := prog_1_method_28_code
def yX6_restore : MethodName := ⟨RX6, "restore", "(I)I"⟩
abbrev cX6_told : ByteArray := prog_1_method_29_code
def yX6_told : MethodName := ⟨RX6, "told", "(I)I"⟩
abbrev cX6_isWithin : ByteArray := prog_1_method_30_code
def yX6_isWithin : MethodName := ⟨RX6, "isWithin", "(III)Z"⟩
abbrev cX6_isSheet : ByteArray := prog_1_method_31_code
def yX6_isSheet : MethodName := ⟨RX6, "isSheet", "(I)Z"⟩
abbrev cX6_isGatherer : ByteArray := prog_1_method_32_code
def yX6_isGatherer : MethodName := ⟨RX6, "isGatherer", "(I)Z"⟩
abbrev cX6_isNumber : ByteArray := prog_1_method_33_code
def yX6_isNumber : MethodName := ⟨RX6, "isNumber", "(I)Z"⟩
abbrev cX6_isPart : ByteArray := prog_1_method_34_code
def yX6_isPart : MethodName := ⟨RX6, "isPart", "(I)Z"⟩
abbrev cX6_isLetter : ByteArray := prog_1_method_35_code
def yX6_isLetter : MethodName := ⟨RX6, "isLetter", "(I)Z"⟩
abbrev cX6_isBad : ByteArray := prog_1_method_36_code
def yX6_isBad : MethodName := ⟨RX6, "isBad", "(I)Z"⟩
abbrev cX6_isOperator : ByteArray := prog_1_method_37_code
def yX6_isOperator : MethodName := ⟨RX6, "isOperator", "(I)Z"⟩
abbrev cX6_isOperand : ByteArray := prog_1_method_38_code
def yX6_isOperand : MethodName := ⟨RX6, "isOperand", "(I)Z"⟩
abbrev cX6_namesFault : ByteArray := prog_1_method_39_code
def yX6_namesFault : MethodName := ⟨RX6, "namesFault", "()I"⟩
abbrev cX6_ruleFault : ByteArray := prog_1_method_40_code
def yX6_ruleFault : MethodName := ⟨RX6, "ruleFault", "()I"⟩
abbrev cX6_readList : ByteArray := prog_1_method_41_code
def yX6_readList : MethodName := ⟨RX6, "readList", "()V"⟩
abbrev cX6_filledSheets : ByteArray := prog_1_method_42_code
def yX6_filledSheets : MethodName := ⟨RX6, "filledSheets", "()I"⟩
abbrev cX6_sheetsOf : ByteArray := prog_1_method_43_code
def yX6_sheetsOf : MethodName := ⟨RX6, "sheetsOf", "(I)I"⟩
abbrev cX6_lossWithout : ByteArray := prog_1_method_44_code
def yX6_lossWithout : MethodName := ⟨RX6, "lossWithout", "(I)I"⟩
abbrev cX6_hasNames : ByteArray := prog_1_method_45_code
def yX6_hasNames : MethodName := ⟨RX6, "hasNames", "(I)Z"⟩
abbrev cX6_gatherersWithNames : ByteArray := prog_1_method_46_code
def yX6_gatherersWithNames : MethodName := ⟨RX6, "gatherersWithNames", "()I"⟩
abbrev cX6_imageOf : ByteArray := prog_1_method_47_code
def yX6_imageOf : MethodName := ⟨RX6, "imageOf", "(I)LNamesByLot$Register;"⟩
abbrev cX6_lotRefusal : ByteArray := prog_1_method_48_code
def yX6_lotRefusal : MethodName := ⟨RX6, "lotRefusal", "(II)I"⟩
abbrev cX6_layList : ByteArray := prog_1_method_49_code
def yX6_layList : MethodName := ⟨RX6, "layList", "()V"⟩
abbrev cX6_waysToYes : ByteArray := prog_1_method_50_code
def yX6_waysToYes : MethodName := ⟨RX6, "waysToYes", "(I)J"⟩
abbrev cX6_waysToBeWrong : ByteArray := prog_1_method_51_code
def yX6_waysToBeWrong : MethodName := ⟨RX6, "waysToBeWrong", "(I)J"⟩
abbrev cX6_sheetWaysToYes : ByteArray := prog_1_method_52_code
def yX6_sheetWaysToYes : MethodName := ⟨RX6, "sheetWaysToYes", "(II)I"⟩
abbrev cX6_someSaysYes : ByteArray := prog_1_method_53_code
def yX6_someSaysYes : MethodName := ⟨RX6, "someSaysYes", "()Z"⟩
abbrev cX6_thousandths : ByteArray := prog_1_method_54_code
def yX6_thousandths : MethodName := ⟨RX6, "thousandths", "(JI)J"⟩
abbrev cX6_oddsByLot : ByteArray := prog_1_method_55_code
def yX6_oddsByLot : MethodName := ⟨RX6, "oddsByLot", "(ILNamesByLot$Fraction;)V"⟩
abbrev cX6_drawHeap : ByteArray := prog_1_method_56_code
def yX6_drawHeap : MethodName := ⟨RX6, "drawHeap", "(II)V"⟩
abbrev cX6_numberList : ByteArray := prog_1_method_57_code
def yX6_numberList : MethodName := ⟨RX6, "numberList", "()I"⟩
abbrev cX6_takeOut : ByteArray := prog_1_method_58_code
def yX6_takeOut : MethodName := ⟨RX6, "takeOut", "(II)I"⟩
def RX7 : String := "NamesByLotModel"
def TX7 : u_T := fun k => match k with
  | 0 => ("NamesByLotModel", "signs", "I", false)
  | 1 => ("NamesByLotModel", "pad", "[I", true)
  | 2 => ("NamesByLotModel", "gatherers", "[I", true)
  | 3 => ("NamesByLotModel", "struck", "[I", true)
  | 4 => ("NamesByLotModel", "sizes", "[I", true)
  | 5 => ("NamesByLotModel", "sheets", "[I", true)
  | 6 => ("NamesByLotModel", "need", "I", false)
  | 7 => ("NamesByLotModel", "ruleSigns", "I", false)
  | 8 => ("NamesByLotModel", "rule", "[I", true)
  | 9 => ("NamesByLotModel", "choose", "[J", true)
  | 10 => ("NamesByLotModel", "all", "I", false)
  | 11 => ("NamesByLotModel", "bad", "I", false)
  | 12 => ("NamesByLotModel", "dots", "I", false)
  | 13 => ("NamesByLotModel", "once", "I", false)
  | 14 => ("NamesByLotModel", "pairs", "I", false)
  | 15 => ("NamesByLotModel", "isOver", "Z", false)
  | 16 => ("NamesByLotModel", "people", "[I", true)
  | 17 => ("NamesByLotModel", "pileUp", "[J", true)
  | 18 => ("NamesByLotModel", "pileLow", "[J", true)
  | 19 => ("NamesByLotModel", "cameUp", "J", false)
  | 20 => ("NamesByLotModel", "cameLow", "J", false)
  | 21 => ("NamesByLotModel", "his", "I", false)
  | 22 => ("NamesByLotModel", "hisBad", "I", false)
  | 23 => ("NamesByLotModel", "seemsUp", "J", false)
  | 24 => ("NamesByLotModel", "seemsLow", "J", false)
  | 25 => ("NamesByLotModel", "row", "[I", true)
  | 26 => ("NamesByLotModel", "image", "[I", true)
  | _ => ("NamesByLotModel", "isKept", "[Z", true)
def tyX7 : Nat → FieldType := fun k => match k with
  | 0 => .int
  | 1 => .array .int
  | 2 => .array .int
  | 3 => .array .int
  | 4 => .array .int
  | 5 => .array .int
  | 6 => .int
  | 7 => .int
  | 8 => .array .int
  | 9 => .array .long
  | 10 => .int
  | 11 => .int
  | 12 => .int
  | 13 => .int
  | 14 => .int
  | 15 => .boolean
  | 16 => .array .int
  | 17 => .array .long
  | 18 => .array .long
  | 19 => .long
  | 20 => .long
  | 21 => .int
  | 22 => .int
  | 23 => .long
  | 24 => .long
  | 25 => .array .int
  | 26 => .array .int
  | _ => .array .boolean
abbrev wsX70 : List Cond := u_ws RX7 TX7 28
theorem nmX7 : ∀ a, a < 28 → ∀ b, b < 28 → a ≠ b → (TX7 a).2.1 ≠ (TX7 b).2.1 := by decide +kernel
theorem tyX7_ok : ∀ k, k < 28 → parseFieldDescriptor (TX7 k).2.2.1 = some (tyX7 k) := by decide +kernel
abbrev cX7_init : ByteArray := prog_9_method_1_code
def yX7_init : MethodName := ⟨RX7, "<init>", "()V"⟩
abbrev cX7_in : ByteArray := prog_9_method_2_code
def yX7_in : MethodName := ⟨RX7, "in", "(III)Z"⟩
abbrev cX7_isSheet : ByteArray := prog_9_method_3_code
def yX7_isSheet : MethodName := ⟨RX7, "isSheet", "(I)Z"⟩
abbrev cX7_isPart : ByteArray := prog_9_method_4_code
def yX7_isPart : MethodName := ⟨RX7, "isPart", "(I)Z"⟩
abbrev cX7_ways : ByteArray := prog_9_method_5_code
def yX7_ways : MethodName := ⟨RX7, "ways", "(II)J"⟩
abbrev cX7_common : ByteArray := prog_9_method_6_code
def yX7_common : MethodName := ⟨RX7, "common", "(JJ)J"⟩
abbrev cX7_term : ByteArray := prog_9_method_7_code
def yX7_term : MethodName := ⟨RX7, "term", "(JJI)J"⟩
abbrev cX7_say : ByteArray := prog_9_method_8_code
def yX7_say : MethodName := ⟨RX7, "say", "(I)I"⟩
abbrev cX7_wipe : ByteArray := prog_9_method_9_code
def yX7_wipe : MethodName := ⟨RX7, "wipe", "()I"⟩
abbrev cX7_isPerson : ByteArray := prog_9_method_10_code
def yX7_isPerson : MethodName := ⟨RX7, "isPerson", "(I)Z"⟩
abbrev cX7_isBad : ByteArray := prog_9_method_11_code
def yX7_isBad : MethodName := ⟨RX7, "isBad", "(I)Z"⟩
abbrev cX7_namesFault : ByteArray := prog_9_method_12_code
def yX7_namesFault : MethodName := ⟨RX7, "namesFault", "()I"⟩
abbrev cX7_isAct : ByteArray := prog_9_method_13_code
def yX7_isAct : MethodName := ⟨RX7, "isAct", "(I)Z"⟩
abbrev cX7_ruleFault : ByteArray := prog_9_method_14_code
def yX7_ruleFault : MethodName := ⟨RX7, "ruleFault", "()I"⟩
abbrev cX7_fault : ByteArray := prog_9_method_15_code
def yX7_fault : MethodName := ⟨RX7, "fault", "(I)I"⟩
abbrev cX7_names : ByteArray := prog_9_method_16_code
def yX7_names : MethodName := ⟨RX7, "names", "(I)I"⟩
abbrev cX7_set : ByteArray := prog_9_method_17_code
def yX7_set : MethodName := ⟨RX7, "set", "(III)I"⟩
abbrev cX7_sheet : ByteArray := prog_9_method_18_code
def yX7_sheet : MethodName := ⟨RX7, "sheet", "(II)I"⟩
abbrev cX7_layList : ByteArray := prog_9_method_19_code
def yX7_layList : MethodName := ⟨RX7, "layList", "(I)V"⟩
abbrev cX7_valid : ByteArray := prog_9_method_20_code
def yX7_valid : MethodName := ⟨RX7, "valid", "()I"⟩
abbrev cX7_good : ByteArray := prog_9_method_21_code
def yX7_good : MethodName := ⟨RX7, "good", "()I"⟩
abbrev cX7_count : ByteArray := prog_9_method_22_code
def yX7_count : MethodName := ⟨RX7, "count", "(I)I"⟩
abbrev cX7_need : ByteArray := prog_9_method_23_code
def yX7_need : MethodName := ⟨RX7, "need", "(I)I"⟩
abbrev cX7_rule : ByteArray := prog_9_method_24_code
def yX7_rule : MethodName := ⟨RX7, "rule", "()I"⟩
abbrev cX7_comesTo : ByteArray := prog_9_method_25_code
def yX7_comesTo : MethodName := ⟨RX7, "comesTo", "(IIII)Z"⟩
abbrev cX7_saysYes : ByteArray := prog_9_method_26_code
def yX7_saysYes : MethodName := ⟨RX7, "saysYes", "(IIII)Z"⟩
abbrev cX7_comes : ByteArray := prog_9_method_27_code
def yX7_comes : MethodName := ⟨RX7, "comes", "(IIIII)J"⟩
abbrev cX7_yesOf : ByteArray := prog_9_method_28_code
def yX7_yesOf : MethodName := ⟨RX7, "yesOf", "(IIII)J"⟩
abbrev cX7_lotsOf : ByteArray := prog_9_method_29_code
def yX7_lotsOf : MethodName := ⟨RX7, "lotsOf", "(IIII)J"⟩
abbrev cX7_yesNow : ByteArray := prog_9_method_30_code
def yX7_yesNow : MethodName := ⟨RX7, "yesNow", "(I)J"⟩
abbrev cX7_barOfLot : ByteArray := prog_9_method_31_code
def yX7_barOfLot : MethodName := ⟨RX7, "barOfLot", "(IZ)I"⟩
abbrev cX7_yes : ByteArray := prog_9_method_32_code
def yX7_yes : MethodName := ⟨RX7, "yes", "(II)J"⟩
abbrev cX7_bits : ByteArray := prog_9_method_33_code
def yX7_bits : MethodName := ⟨RX7, "bits", "(I)I"⟩
abbrev cX7_bySheets : ByteArray := prog_9_method_34_code
def yX7_bySheets : MethodName := ⟨RX7, "bySheets", "(II)J"⟩
abbrev cX7_wrongNow : ByteArray := prog_9_method_35_code
def yX7_wrongNow : MethodName := ⟨RX7, "wrongNow", "(I)J"⟩
abbrev cX7_wrong : ByteArray := prog_9_method_36_code
def yX7_wrong : MethodName := ⟨RX7, "wrong", "(II)J"⟩
abbrev cX7_enough : ByteArray := prog_9_method_37_code
def yX7_enough : MethodName := ⟨RX7, "enough", "(I)I"⟩
abbrev cX7_worth : ByteArray := prog_9_method_38_code
def yX7_worth : MethodName := ⟨RX7, "worth", "(IIII)J"⟩
abbrev cX7_isGatherer : ByteArray := prog_9_method_39_code
def yX7_isGatherer : MethodName := ⟨RX7, "isGatherer", "(I)Z"⟩
abbrev cX7_layHis : ByteArray := prog_9_method_40_code
def yX7_layHis : MethodName := ⟨RX7, "layHis", "(I)V"⟩
abbrev cX7_gatherer : ByteArray := prog_9_method_41_code
def yX7_gatherer : MethodName := ⟨RX7, "gatherer", "(II)I"⟩
abbrev cX7_laySeems : ByteArray := prog_9_method_42_code
def yX7_laySeems : MethodName := ⟨RX7, "laySeems", "(I)V"⟩
abbrev cX7_seems : ByteArray := prog_9_method_43_code
def yX7_seems : MethodName := ⟨RX7, "seems", "(II)J"⟩
abbrev cX7_isLess : ByteArray := prog_9_method_44_code
def yX7_isLess : MethodName := ⟨RX7, "isLess", "(JJJJ)Z"⟩
abbrev cX7_suspect : ByteArray := prog_9_method_45_code
def yX7_suspect : MethodName := ⟨RX7, "suspect", "()I"⟩
abbrev cX7_shared : ByteArray := prog_9_method_46_code
def yX7_shared : MethodName := ⟨RX7, "shared", "(II)J"⟩
abbrev cX7_fine : ByteArray := prog_9_method_47_code
def yX7_fine : MethodName := ⟨RX7, "fine", "(III)I"⟩
abbrev cX7_word : ByteArray := prog_9_method_48_code
def yX7_word : MethodName := ⟨RX7, "word", "(III)J"⟩
abbrev cX7_lossOf : ByteArray := prog_9_method_49_code
def yX7_lossOf : MethodName := ⟨RX7, "lossOf", "(I)I"⟩
abbrev cX7_isOverfull : ByteArray := prog_9_method_50_code
def yX7_isOverfull : MethodName := ⟨RX7, "isOverfull", "()Z"⟩
abbrev cX7_strike : ByteArray := prog_9_method_51_code
def yX7_strike : MethodName := ⟨RX7, "strike", "(I)I"⟩
abbrev cX7_worst : ByteArray := prog_9_method_52_code
def yX7_worst : MethodName := ⟨RX7, "worst", "()I"⟩
abbrev cX7_against : ByteArray := prog_9_method_53_code
def yX7_against : MethodName := ⟨RX7, "against", "(II)I"⟩
abbrev cX7_heap : ByteArray := prog_9_method_54_code
def yX7_heap : MethodName := ⟨RX7, "heap", "(III)I"⟩
abbrev cX7_image : ByteArray := prog_9_method_55_code
def yX7_image : MethodName := ⟨RX7, "image", "(I)I"⟩
abbrev cX7_restore : ByteArray := prog_9_method_56_code
def yX7_restore : MethodName := ⟨RX7, "restore", "(I)I"⟩
abbrev cX7_told : ByteArray := prog_9_method_57_code
def yX7_told : MethodName := ⟨RX7, "told", "(I)I"⟩
def RJ6 : String := "java/lang/Integer"
def TJ6 : u_T := fun k => match k with
  | _ => ("", "", "", false)
def tyJ6 : Nat → FieldType := fun k => match k with
  | _ => .int
abbrev wsJ60 : List Cond := u_ws RJ6 TJ6 0
theorem nmJ6 : ∀ a, a < 0 → ∀ b, b < 0 → a ≠ b → (TJ6 a).2.1 ≠ (TJ6 b).2.1 := by decide +kernel
theorem tyJ6_ok : ∀ k, k < 0 → parseFieldDescriptor (TJ6 k).2.2.1 = some (tyJ6 k) := by decide +kernel
abbrev cJ6_bitCount_0f7a4 : ByteArray := prog_10_method_49_code
def yJ6_bitCount_0f7a4 : MethodName := ⟨RJ6, "bitCount", "(I)I"⟩
def RJ9 : String := "java/lang/Math"
def TJ9 : u_T := fun k => match k with
  | _ => ("", "", "", false)
def tyJ9 : Nat → FieldType := fun k => match k with
  | _ => .int
abbrev wsJ90 : List Cond := u_ws RJ9 TJ9 0
theorem nmJ9 : ∀ a, a < 0 → ∀ b, b < 0 → a ≠ b → (TJ9 a).2.1 ≠ (TJ9 b).2.1 := by decide +kernel
theorem tyJ9_ok : ∀ k, k < 0 → parseFieldDescriptor (TJ9 k).2.2.1 = some (tyJ9 k) := by decide +kernel
abbrev cJ9_abs_067f4 : ByteArray := prog_11_method_61_code
def yJ9_abs_067f4 : MethodName := ⟨RJ9, "abs", "(J)J"⟩
abbrev cJ9_max_7cf53 : ByteArray := prog_11_method_65_code
def yJ9_max_7cf53 : MethodName := ⟨RJ9, "max", "(II)I"⟩
abbrev cJ9_min_7cf53 : ByteArray := prog_11_method_69_code
def yJ9_min_7cf53 : MethodName := ⟨RJ9, "min", "(II)I"⟩
abbrev cJ9_min_f86c9 : ByteArray := prog_11_method_70_code
def yJ9_min_f86c9 : MethodName := ⟨RJ9, "min", "(JJ)J"⟩
def RJ0 : String := "java/lang/String"
def TJ0 : u_T := fun k => match k with
  | _ => ("", "", "", false)
def tyJ0 : Nat → FieldType := fun k => match k with
  | _ => .int
abbrev wsJ00 : List Cond := u_ws RJ0 TJ0 0
theorem nmJ0 : ∀ a, a < 0 → ∀ b, b < 0 → a ≠ b → (TJ0 a).2.1 ≠ (TJ0 b).2.1 := by decide +kernel
theorem tyJ0_ok : ∀ k, k < 0 → parseFieldDescriptor (TJ0 k).2.2.1 = some (tyJ0 k) := by decide +kernel
abbrev cJ0_length_8abf5 : ByteArray := prog_12_method_54_code
def yJ0_length_8abf5 : MethodName := ⟨RJ0, "length", "()I"⟩
abbrev cJ0_charAt_5068e : ByteArray := prog_12_method_56_code
def yJ0_charAt_5068e : MethodName := ⟨RJ0, "charAt", "(I)C"⟩
abbrev cJ0_coder_7d493 : ByteArray := prog_12_method_152_code
def yJ0_coder_7d493 : MethodName := ⟨RJ0, "coder", "()B"⟩
abbrev cJ0_isLatin1_aae02 : ByteArray := prog_12_method_154_code
def yJ0_isLatin1_aae02 : MethodName := ⟨RJ0, "isLatin1", "()Z"⟩
abbrev cJ0_checkIndex_df160 : ByteArray := prog_12_method_155_code
def yJ0_checkIndex_df160 : MethodName := ⟨RJ0, "checkIndex", "(II)V"⟩
def RJ1 : String := "java/lang/StringLatin1"
def TJ1 : u_T := fun k => match k with
  | _ => ("", "", "", false)
def tyJ1 : Nat → FieldType := fun k => match k with
  | _ => .int
abbrev wsJ10 : List Cond := u_ws RJ1 TJ1 0
theorem nmJ1 : ∀ a, a < 0 → ∀ b, b < 0 → a ≠ b → (TJ1 a).2.1 ≠ (TJ1 b).2.1 := by decide +kernel
theorem tyJ1_ok : ∀ k, k < 0 → parseFieldDescriptor (TJ1 k).2.2.1 = some (tyJ1 k) := by decide +kernel
abbrev cJ1_charAt_3b067 : ByteArray := prog_13_method_2_code
def yJ1_charAt_3b067 : MethodName := ⟨RJ1, "charAt", "([BI)C"⟩
def RJ2 : String := "java/lang/StringUTF16"
def TJ2 : u_T := fun k => match k with
  | _ => ("", "", "", false)
def tyJ2 : Nat → FieldType := fun k => match k with
  | _ => .int
abbrev wsJ20 : List Cond := u_ws RJ2 TJ2 0
theorem nmJ2 : ∀ a, a < 0 → ∀ b, b < 0 → a ≠ b → (TJ2 a).2.1 ≠ (TJ2 b).2.1 := by decide +kernel
theorem tyJ2_ok : ∀ k, k < 0 → parseFieldDescriptor (TJ2 k).2.2.1 = some (tyJ2 k) := by decide +kernel
abbrev cJ2_getChar_3b067 : ByteArray := prog_14_method_5_code
def yJ2_getChar_3b067 : MethodName := ⟨RJ2, "getChar", "([BI)C"⟩
abbrev cJ2_length_9d52b : ByteArray := prog_14_method_6_code
def yJ2_length_9d52b : MethodName := ⟨RJ2, "length", "([B)I"⟩
abbrev cJ2_charAt_3b067 : ByteArray := prog_14_method_83_code
def yJ2_charAt_3b067 : MethodName := ⟨RJ2, "charAt", "([BI)C"⟩
abbrev cJ2_checkIndex_2214a : ByteArray := prog_14_method_91_code
def yJ2_checkIndex_2214a : MethodName := ⟨RJ2, "checkIndex", "(I[B)V"⟩
def RJ10 : String := "java/lang/System"
def TJ10 : u_T := fun k => match k with
  | _ => ("", "", "", false)
def tyJ10 : Nat → FieldType := fun k => match k with
  | _ => .int
abbrev wsJ100 : List Cond := u_ws RJ10 TJ10 0
theorem nmJ10 : ∀ a, a < 0 → ∀ b, b < 0 → a ≠ b → (TJ10 a).2.1 ≠ (TJ10 b).2.1 := by decide +kernel
theorem tyJ10_ok : ∀ k, k < 0 → parseFieldDescriptor (TJ10 k).2.2.1 = some (tyJ10 k) := by decide +kernel
def RJ3 : String := "jdk/internal/util/Preconditions"
def TJ3 : u_T := fun k => match k with
  | _ => ("", "", "", false)
def tyJ3 : Nat → FieldType := fun k => match k with
  | _ => .int
abbrev wsJ30 : List Cond := u_ws RJ3 TJ3 0
theorem nmJ3 : ∀ a, a < 0 → ∀ b, b < 0 → a ≠ b → (TJ3 a).2.1 ≠ (TJ3 b).2.1 := by decide +kernel
theorem tyJ3_ok : ∀ k, k < 0 → parseFieldDescriptor (TJ3 k).2.2.1 = some (tyJ3 k) := by decide +kernel
abbrev cJ3_checkIndex_8e157 : ByteArray := prog_16_method_11_code
def yJ3_checkIndex_8e157 : MethodName := ⟨RJ3, "checkIndex", "(IILjava/util/function/BiFunction;)I"⟩
def RL : String := "NamesByLotLaw"
abbrev cL_law : ByteArray := code
def yL_law : MethodName := ⟨RL, "law", "([I)Z"⟩
abbrev vwCl : List vw_C := [(RX0, TX0, 2), (RX1, TX1, 5), (RX2, TX2, 3), (RX3, TX3, 7), (RX4, TX4, 7), (RX5, TX5, 2), (RX6, TX6, 11), (RX7, TX7, 28)]
theorem dX0_init_0 : decode cX0_init 0 = .ok (.aload_n 0, 1) := by decide +kernel
theorem dX0_init_1 : decode cX0_init 1 = .ok (.invokespecial 3, 3) := by decide +kernel
theorem dX0_init_4 : decode cX0_init 4 = .ok (.aload_n 0, 1) := by decide +kernel
theorem dX0_init_5 : decode cX0_init 5 = .ok (.lconst 1, 1) := by decide +kernel
theorem dX0_init_6 : decode cX0_init 6 = .ok (.putfield 9, 3) := by decide +kernel
theorem dX0_init_9 : decode cX0_init 9 = .ok (.return_, 1) := by decide +kernel
theorem dX0_become_0 : decode cX0_become 0 = .ok (.lload_n 1, 1) := by decide +kernel
theorem dX0_become_1 : decode cX0_become 1 = .ok (.lload_n 3, 1) := by decide +kernel
theorem dX0_become_2 : decode cX0_become 2 = .ok (.invokestatic 15, 3) := by decide +kernel
theorem dX0_become_5 : decode cX0_become 5 = .ok (.lstore 5, 2) := by decide +kernel
theorem dX0_become_7 : decode cX0_become 7 = .ok (.lload_n 3, 1) := by decide +kernel
theorem dX0_become_8 : decode cX0_become 8 = .ok (.lconst 0, 1) := by decide +kernel
theorem dX0_become_9 : decode cX0_become 9 = .ok (.lcmp, 1) := by decide +kernel
theorem dX0_become_10 : decode cX0_become 10 = .ok (.ifCond .le 10, 3) := by decide +kernel
theorem dX0_become_13 : decode cX0_become 13 = .ok (.lload 5, 2) := by decide +kernel
theorem dX0_become_15 : decode cX0_become 15 = .ok (.lconst 0, 1) := by decide +kernel
theorem dX0_become_16 : decode cX0_become 16 = .ok (.lcmp, 1) := by decide +kernel
theorem dX0_become_17 : decode cX0_become 17 = .ok (.ifCond .gt 14, 3) := by decide +kernel
theorem dX0_become_20 : decode cX0_become 20 = .ok (.aload_n 0, 1) := by decide +kernel
theorem dX0_become_21 : decode cX0_become 21 = .ok (.lconst 0, 1) := by decide +kernel
theorem dX0_become_22 : decode cX0_become 22 = .ok (.putfield 19, 3) := by decide +kernel
theorem dX0_become_25 : decode cX0_become 25 = .ok (.aload_n 0, 1) := by decide +kernel
theorem dX0_become_26 : decode cX0_become 26 = .ok (.lconst 1, 1) := by decide +kernel
theorem dX0_become_27 : decode cX0_become 27 = .ok (.putfield 9, 3) := by decide +kernel
theorem dX0_become_30 : decode cX0_become 30 = .ok (.return_, 1) := by decide +kernel
theorem dX0_become_31 : decode cX0_become 31 = .ok (.aload_n 0, 1) := by decide +kernel
theorem dX0_become_32 : decode cX0_become 32 = .ok (.lload_n 1, 1) := by decide +kernel
theorem dX0_become_33 : decode cX0_become 33 = .ok (.lload 5, 2) := by decide +kernel
theorem dX0_become_35 : decode cX0_become 35 = .ok (.ldiv, 1) := by decide +kernel
theorem dX0_become_36 : decode cX0_become 36 = .ok (.putfield 19, 3) := by decide +kernel
theorem dX0_become_39 : decode cX0_become 39 = .ok (.aload_n 0, 1) := by decide +kernel
theorem dX0_become_40 : decode cX0_become 40 = .ok (.lload_n 3, 1) := by decide +kernel
theorem dX0_become_41 : decode cX0_become 41 = .ok (.lload 5, 2) := by decide +kernel
theorem dX0_become_43 : decode cX0_become 43 = .ok (.ldiv, 1) := by decide +kernel
theorem dX0_become_44 : decode cX0_become 44 = .ok (.putfield 9, 3) := by decide +kernel
theorem dX0_become_47 : decode cX0_become 47 = .ok (.return_, 1) := by decide +kernel
theorem dX0_half_0 : decode cX0_half 0 = .ok (.iload_n 1, 1) := by decide +kernel
theorem dX0_half_1 : decode cX0_half 1 = .ok (.ifCond .ne 10, 3) := by decide +kernel
theorem dX0_half_4 : decode cX0_half 4 = .ok (.aload_n 0, 1) := by decide +kernel
theorem dX0_half_5 : decode cX0_half 5 = .ok (.getfield 19, 3) := by decide +kernel
theorem dX0_half_8 : decode cX0_half 8 = .ok (.goto 7, 3) := by decide +kernel
theorem dX0_half_11 : decode cX0_half 11 = .ok (.aload_n 0, 1) := by decide +kernel
theorem dX0_half_12 : decode cX0_half 12 = .ok (.getfield 9, 3) := by decide +kernel
theorem dX0_half_15 : decode cX0_half 15 = .ok (.lreturn, 1) := by decide +kernel
theorem dX0_lessen_0 : decode cX0_lessen 0 = .ok (.aload_n 0, 1) := by decide +kernel
theorem dX0_lessen_1 : decode cX0_lessen 1 = .ok (.aload_n 0, 1) := by decide +kernel
theorem dX0_lessen_2 : decode cX0_lessen 2 = .ok (.getfield 19, 3) := by decide +kernel
theorem dX0_lessen_5 : decode cX0_lessen 5 = .ok (.aload_n 1, 1) := by decide +kernel
theorem dX0_lessen_6 : decode cX0_lessen 6 = .ok (.getfield 9, 3) := by decide +kernel
theorem dX0_lessen_9 : decode cX0_lessen 9 = .ok (.lmul, 1) := by decide +kernel
theorem dX0_lessen_10 : decode cX0_lessen 10 = .ok (.aload_n 1, 1) := by decide +kernel
theorem dX0_lessen_11 : decode cX0_lessen 11 = .ok (.getfield 19, 3) := by decide +kernel
theorem dX0_lessen_14 : decode cX0_lessen 14 = .ok (.aload_n 0, 1) := by decide +kernel
theorem dX0_lessen_15 : decode cX0_lessen 15 = .ok (.getfield 9, 3) := by decide +kernel
theorem dX0_lessen_18 : decode cX0_lessen 18 = .ok (.lmul, 1) := by decide +kernel
theorem dX0_lessen_19 : decode cX0_lessen 19 = .ok (.lsub, 1) := by decide +kernel
theorem dX0_lessen_20 : decode cX0_lessen 20 = .ok (.aload_n 0, 1) := by decide +kernel
theorem dX0_lessen_21 : decode cX0_lessen 21 = .ok (.getfield 9, 3) := by decide +kernel
theorem dX0_lessen_24 : decode cX0_lessen 24 = .ok (.aload_n 1, 1) := by decide +kernel
theorem dX0_lessen_25 : decode cX0_lessen 25 = .ok (.getfield 9, 3) := by decide +kernel
theorem dX0_lessen_28 : decode cX0_lessen 28 = .ok (.lmul, 1) := by decide +kernel
theorem dX0_lessen_29 : decode cX0_lessen 29 = .ok (.invokevirtual 22, 3) := by decide +kernel
theorem dX0_lessen_32 : decode cX0_lessen 32 = .ok (.return_, 1) := by decide +kernel
theorem dX0_isLessThan_0 : decode cX0_isLessThan 0 = .ok (.aload_n 0, 1) := by decide +kernel
theorem dX0_isLessThan_1 : decode cX0_isLessThan 1 = .ok (.getfield 19, 3) := by decide +kernel
theorem dX0_isLessThan_4 : decode cX0_isLessThan 4 = .ok (.lstore_n 2, 1) := by decide +kernel
theorem dX0_isLessThan_5 : decode cX0_isLessThan 5 = .ok (.aload_n 0, 1) := by decide +kernel
theorem dX0_isLessThan_6 : decode cX0_isLessThan 6 = .ok (.getfield 9, 3) := by decide +kernel
theorem dX0_isLessThan_9 : decode cX0_isLessThan 9 = .ok (.lstore 4, 2) := by decide +kernel
theorem dX0_isLessThan_11 : decode cX0_isLessThan 11 = .ok (.aload_n 1, 1) := by decide +kernel
theorem dX0_isLessThan_12 : decode cX0_isLessThan 12 = .ok (.getfield 19, 3) := by decide +kernel
theorem dX0_isLessThan_15 : decode cX0_isLessThan 15 = .ok (.lstore 6, 2) := by decide +kernel
theorem dX0_isLessThan_17 : decode cX0_isLessThan 17 = .ok (.aload_n 1, 1) := by decide +kernel
theorem dX0_isLessThan_18 : decode cX0_isLessThan 18 = .ok (.getfield 9, 3) := by decide +kernel
theorem dX0_isLessThan_21 : decode cX0_isLessThan 21 = .ok (.lstore 8, 2) := by decide +kernel
theorem dX0_isLessThan_23 : decode cX0_isLessThan 23 = .ok (.iconst 0, 1) := by decide +kernel
theorem dX0_isLessThan_24 : decode cX0_isLessThan 24 = .ok (.istore 10, 2) := by decide +kernel
theorem dX0_isLessThan_26 : decode cX0_isLessThan 26 = .ok (.iconst 0, 1) := by decide +kernel
theorem dX0_isLessThan_27 : decode cX0_isLessThan 27 = .ok (.istore 11, 2) := by decide +kernel
theorem dX0_isLessThan_29 : decode cX0_isLessThan 29 = .ok (.iload 11, 2) := by decide +kernel
theorem dX0_isLessThan_31 : decode cX0_isLessThan 31 = .ok (.sipush 200, 3) := by decide +kernel
theorem dX0_isLessThan_34 : decode cX0_isLessThan 34 = .ok (.if_icmp .ge 108, 3) := by decide +kernel
theorem dX0_isLessThan_37 : decode cX0_isLessThan 37 = .ok (.lload 4, 2) := by decide +kernel
theorem dX0_isLessThan_39 : decode cX0_isLessThan 39 = .ok (.lconst 0, 1) := by decide +kernel
theorem dX0_isLessThan_40 : decode cX0_isLessThan 40 = .ok (.lcmp, 1) := by decide +kernel
theorem dX0_isLessThan_41 : decode cX0_isLessThan 41 = .ok (.ifCond .le 101, 3) := by decide +kernel
theorem dX0_isLessThan_44 : decode cX0_isLessThan 44 = .ok (.lload 8, 2) := by decide +kernel
theorem dX0_isLessThan_46 : decode cX0_isLessThan 46 = .ok (.lconst 0, 1) := by decide +kernel
theorem dX0_isLessThan_47 : decode cX0_isLessThan 47 = .ok (.lcmp, 1) := by decide +kernel
theorem dX0_isLessThan_48 : decode cX0_isLessThan 48 = .ok (.ifCond .le 94, 3) := by decide +kernel
theorem dX0_isLessThan_51 : decode cX0_isLessThan 51 = .ok (.lload_n 2, 1) := by decide +kernel
theorem dX0_isLessThan_52 : decode cX0_isLessThan 52 = .ok (.lload 4, 2) := by decide +kernel
theorem dX0_isLessThan_54 : decode cX0_isLessThan 54 = .ok (.ldiv, 1) := by decide +kernel
theorem dX0_isLessThan_55 : decode cX0_isLessThan 55 = .ok (.lstore 12, 2) := by decide +kernel
theorem dX0_isLessThan_57 : decode cX0_isLessThan 57 = .ok (.lload 6, 2) := by decide +kernel
theorem dX0_isLessThan_59 : decode cX0_isLessThan 59 = .ok (.lload 8, 2) := by decide +kernel
theorem dX0_isLessThan_61 : decode cX0_isLessThan 61 = .ok (.ldiv, 1) := by decide +kernel
theorem dX0_isLessThan_62 : decode cX0_isLessThan 62 = .ok (.lstore 14, 2) := by decide +kernel
theorem dX0_isLessThan_64 : decode cX0_isLessThan 64 = .ok (.lload 12, 2) := by decide +kernel
theorem dX0_isLessThan_66 : decode cX0_isLessThan 66 = .ok (.lload 14, 2) := by decide +kernel
theorem dX0_isLessThan_68 : decode cX0_isLessThan 68 = .ok (.lcmp, 1) := by decide +kernel
theorem dX0_isLessThan_69 : decode cX0_isLessThan 69 = .ok (.ifCond .eq 27, 3) := by decide +kernel
theorem dX0_isLessThan_72 : decode cX0_isLessThan 72 = .ok (.lload 12, 2) := by decide +kernel
theorem dX0_isLessThan_74 : decode cX0_isLessThan 74 = .ok (.lload 14, 2) := by decide +kernel
theorem dX0_isLessThan_76 : decode cX0_isLessThan 76 = .ok (.lcmp, 1) := by decide +kernel
theorem dX0_isLessThan_77 : decode cX0_isLessThan 77 = .ok (.ifCond .ge 7, 3) := by decide +kernel
theorem dX0_isLessThan_80 : decode cX0_isLessThan 80 = .ok (.iconst 1, 1) := by decide +kernel
theorem dX0_isLessThan_81 : decode cX0_isLessThan 81 = .ok (.goto 4, 3) := by decide +kernel
theorem dX0_isLessThan_84 : decode cX0_isLessThan 84 = .ok (.iconst 0, 1) := by decide +kernel
theorem dX0_isLessThan_85 : decode cX0_isLessThan 85 = .ok (.iload 10, 2) := by decide +kernel
theorem dX0_isLessThan_87 : decode cX0_isLessThan 87 = .ok (.if_icmp .eq 7, 3) := by decide +kernel
theorem dX0_isLessThan_90 : decode cX0_isLessThan 90 = .ok (.iconst 1, 1) := by decide +kernel
theorem dX0_isLessThan_91 : decode cX0_isLessThan 91 = .ok (.goto 4, 3) := by decide +kernel
theorem dX0_isLessThan_94 : decode cX0_isLessThan 94 = .ok (.iconst 0, 1) := by decide +kernel
theorem dX0_isLessThan_95 : decode cX0_isLessThan 95 = .ok (.ireturn, 1) := by decide +kernel
theorem dX0_isLessThan_96 : decode cX0_isLessThan 96 = .ok (.lload_n 2, 1) := by decide +kernel
theorem dX0_isLessThan_97 : decode cX0_isLessThan 97 = .ok (.lload 4, 2) := by decide +kernel
theorem dX0_isLessThan_99 : decode cX0_isLessThan 99 = .ok (.lrem, 1) := by decide +kernel
theorem dX0_isLessThan_100 : decode cX0_isLessThan 100 = .ok (.lstore 16, 2) := by decide +kernel
theorem dX0_isLessThan_102 : decode cX0_isLessThan 102 = .ok (.lload 6, 2) := by decide +kernel
theorem dX0_isLessThan_104 : decode cX0_isLessThan 104 = .ok (.lload 8, 2) := by decide +kernel
theorem dX0_isLessThan_106 : decode cX0_isLessThan 106 = .ok (.lrem, 1) := by decide +kernel
theorem dX0_isLessThan_107 : decode cX0_isLessThan 107 = .ok (.lstore 18, 2) := by decide +kernel
theorem dX0_isLessThan_109 : decode cX0_isLessThan 109 = .ok (.lload 4, 2) := by decide +kernel
theorem dX0_isLessThan_111 : decode cX0_isLessThan 111 = .ok (.lstore_n 2, 1) := by decide +kernel
theorem dX0_isLessThan_112 : decode cX0_isLessThan 112 = .ok (.lload 16, 2) := by decide +kernel
theorem dX0_isLessThan_114 : decode cX0_isLessThan 114 = .ok (.lstore 4, 2) := by decide +kernel
theorem dX0_isLessThan_116 : decode cX0_isLessThan 116 = .ok (.lload 8, 2) := by decide +kernel
theorem dX0_isLessThan_118 : decode cX0_isLessThan 118 = .ok (.lstore 6, 2) := by decide +kernel
theorem dX0_isLessThan_120 : decode cX0_isLessThan 120 = .ok (.lload 18, 2) := by decide +kernel
theorem dX0_isLessThan_122 : decode cX0_isLessThan 122 = .ok (.lstore 8, 2) := by decide +kernel
theorem dX0_isLessThan_124 : decode cX0_isLessThan 124 = .ok (.iload 10, 2) := by decide +kernel
theorem dX0_isLessThan_126 : decode cX0_isLessThan 126 = .ok (.ifCond .ne 7, 3) := by decide +kernel
theorem dX0_isLessThan_129 : decode cX0_isLessThan 129 = .ok (.iconst 1, 1) := by decide +kernel
theorem dX0_isLessThan_130 : decode cX0_isLessThan 130 = .ok (.goto 4, 3) := by decide +kernel
theorem dX0_isLessThan_133 : decode cX0_isLessThan 133 = .ok (.iconst 0, 1) := by decide +kernel
theorem dX0_isLessThan_134 : decode cX0_isLessThan 134 = .ok (.istore 10, 2) := by decide +kernel
theorem dX0_isLessThan_136 : decode cX0_isLessThan 136 = .ok (.iinc 11 1, 3) := by decide +kernel
theorem dX0_isLessThan_139 : decode cX0_isLessThan 139 = .ok (.goto (-110), 3) := by decide +kernel
theorem dX0_isLessThan_142 : decode cX0_isLessThan 142 = .ok (.lload 4, 2) := by decide +kernel
theorem dX0_isLessThan_144 : decode cX0_isLessThan 144 = .ok (.lload 8, 2) := by decide +kernel
theorem dX0_isLessThan_146 : decode cX0_isLessThan 146 = .ok (.lcmp, 1) := by decide +kernel
theorem dX0_isLessThan_147 : decode cX0_isLessThan 147 = .ok (.ifCond .eq 24, 3) := by decide +kernel
theorem dX0_isLessThan_150 : decode cX0_isLessThan 150 = .ok (.lload 8, 2) := by decide +kernel
theorem dX0_isLessThan_152 : decode cX0_isLessThan 152 = .ok (.lconst 0, 1) := by decide +kernel
theorem dX0_isLessThan_153 : decode cX0_isLessThan 153 = .ok (.lcmp, 1) := by decide +kernel
theorem dX0_isLessThan_154 : decode cX0_isLessThan 154 = .ok (.ifCond .ne 7, 3) := by decide +kernel
theorem dX0_isLessThan_157 : decode cX0_isLessThan 157 = .ok (.iconst 1, 1) := by decide +kernel
theorem dX0_isLessThan_158 : decode cX0_isLessThan 158 = .ok (.goto 4, 3) := by decide +kernel
theorem dX0_isLessThan_161 : decode cX0_isLessThan 161 = .ok (.iconst 0, 1) := by decide +kernel
theorem dX0_isLessThan_162 : decode cX0_isLessThan 162 = .ok (.iload 10, 2) := by decide +kernel
theorem dX0_isLessThan_164 : decode cX0_isLessThan 164 = .ok (.if_icmp .eq 7, 3) := by decide +kernel
theorem dX0_isLessThan_167 : decode cX0_isLessThan 167 = .ok (.iconst 1, 1) := by decide +kernel
theorem dX0_isLessThan_168 : decode cX0_isLessThan 168 = .ok (.goto 4, 3) := by decide +kernel
theorem dX0_isLessThan_171 : decode cX0_isLessThan 171 = .ok (.iconst 0, 1) := by decide +kernel
theorem dX0_isLessThan_172 : decode cX0_isLessThan 172 = .ok (.ireturn, 1) := by decide +kernel
theorem dX0_commonDivisor_0 : decode cX0_commonDivisor 0 = .ok (.lload_n 0, 1) := by decide +kernel
theorem dX0_commonDivisor_1 : decode cX0_commonDivisor 1 = .ok (.invokestatic 26, 3) := by decide +kernel
theorem dX0_commonDivisor_4 : decode cX0_commonDivisor 4 = .ok (.lstore 4, 2) := by decide +kernel
theorem dX0_commonDivisor_6 : decode cX0_commonDivisor 6 = .ok (.lload_n 2, 1) := by decide +kernel
theorem dX0_commonDivisor_7 : decode cX0_commonDivisor 7 = .ok (.invokestatic 26, 3) := by decide +kernel
theorem dX0_commonDivisor_10 : decode cX0_commonDivisor 10 = .ok (.lstore 6, 2) := by decide +kernel
theorem dX0_commonDivisor_12 : decode cX0_commonDivisor 12 = .ok (.iconst 0, 1) := by decide +kernel
theorem dX0_commonDivisor_13 : decode cX0_commonDivisor 13 = .ok (.istore 8, 2) := by decide +kernel
theorem dX0_commonDivisor_15 : decode cX0_commonDivisor 15 = .ok (.iload 8, 2) := by decide +kernel
theorem dX0_commonDivisor_17 : decode cX0_commonDivisor 17 = .ok (.sipush 200, 3) := by decide +kernel
theorem dX0_commonDivisor_20 : decode cX0_commonDivisor 20 = .ok (.if_icmp .ge 31, 3) := by decide +kernel
theorem dX0_commonDivisor_23 : decode cX0_commonDivisor 23 = .ok (.lload 6, 2) := by decide +kernel
theorem dX0_commonDivisor_25 : decode cX0_commonDivisor 25 = .ok (.lconst 0, 1) := by decide +kernel
theorem dX0_commonDivisor_26 : decode cX0_commonDivisor 26 = .ok (.lcmp, 1) := by decide +kernel
theorem dX0_commonDivisor_27 : decode cX0_commonDivisor 27 = .ok (.ifCond .eq 24, 3) := by decide +kernel
theorem dX0_commonDivisor_30 : decode cX0_commonDivisor 30 = .ok (.lload 4, 2) := by decide +kernel
theorem dX0_commonDivisor_32 : decode cX0_commonDivisor 32 = .ok (.lload 6, 2) := by decide +kernel
theorem dX0_commonDivisor_34 : decode cX0_commonDivisor 34 = .ok (.lrem, 1) := by decide +kernel
theorem dX0_commonDivisor_35 : decode cX0_commonDivisor 35 = .ok (.lstore 9, 2) := by decide +kernel
theorem dX0_commonDivisor_37 : decode cX0_commonDivisor 37 = .ok (.lload 6, 2) := by decide +kernel
theorem dX0_commonDivisor_39 : decode cX0_commonDivisor 39 = .ok (.lstore 4, 2) := by decide +kernel
theorem dX0_commonDivisor_41 : decode cX0_commonDivisor 41 = .ok (.lload 9, 2) := by decide +kernel
theorem dX0_commonDivisor_43 : decode cX0_commonDivisor 43 = .ok (.lstore 6, 2) := by decide +kernel
theorem dX0_commonDivisor_45 : decode cX0_commonDivisor 45 = .ok (.iinc 8 1, 3) := by decide +kernel
theorem dX0_commonDivisor_48 : decode cX0_commonDivisor 48 = .ok (.goto (-33), 3) := by decide +kernel
theorem dX0_commonDivisor_51 : decode cX0_commonDivisor 51 = .ok (.lload 4, 2) := by decide +kernel
theorem dX0_commonDivisor_53 : decode cX0_commonDivisor 53 = .ok (.lreturn, 1) := by decide +kernel
theorem dX1_init_0 : decode cX1_init 0 = .ok (.aload_n 0, 1) := by decide +kernel
theorem dX1_init_1 : decode cX1_init 1 = .ok (.invokespecial 3, 3) := by decide +kernel
theorem dX1_init_4 : decode cX1_init 4 = .ok (.aload_n 0, 1) := by decide +kernel
theorem dX1_init_5 : decode cX1_init 5 = .ok (.sipush 1891, 3) := by decide +kernel
theorem dX1_init_8 : decode cX1_init 8 = .ok (.newarray .long, 2) := by decide +kernel
theorem dX1_init_10 : decode cX1_init 10 = .ok (.putfield 11, 3) := by decide +kernel
theorem dX1_init_13 : decode cX1_init 13 = .ok (.aload_n 0, 1) := by decide +kernel
theorem dX1_init_14 : decode cX1_init 14 = .ok (.sipush 1891, 3) := by decide +kernel
theorem dX1_init_17 : decode cX1_init 17 = .ok (.newarray .long, 2) := by decide +kernel
theorem dX1_init_19 : decode cX1_init 19 = .ok (.putfield 15, 3) := by decide +kernel
theorem dX1_init_22 : decode cX1_init 22 = .ok (.iconst 0, 1) := by decide +kernel
theorem dX1_init_23 : decode cX1_init 23 = .ok (.istore_n 1, 1) := by decide +kernel
theorem dX1_init_24 : decode cX1_init 24 = .ok (.iload_n 1, 1) := by decide +kernel
theorem dX1_init_25 : decode cX1_init 25 = .ok (.bipush 61, 2) := by decide +kernel
theorem dX1_init_27 : decode cX1_init 27 = .ok (.if_icmp .ge 74, 3) := by decide +kernel
theorem dX1_init_30 : decode cX1_init 30 = .ok (.iconst 0, 1) := by decide +kernel
theorem dX1_init_31 : decode cX1_init 31 = .ok (.istore_n 2, 1) := by decide +kernel
theorem dX1_init_32 : decode cX1_init 32 = .ok (.iload_n 2, 1) := by decide +kernel
theorem dX1_init_33 : decode cX1_init 33 = .ok (.iload_n 1, 1) := by decide +kernel
theorem dX1_init_34 : decode cX1_init 34 = .ok (.if_icmp .gt 61, 3) := by decide +kernel
theorem dX1_init_37 : decode cX1_init 37 = .ok (.iload_n 1, 1) := by decide +kernel
theorem dX1_init_38 : decode cX1_init 38 = .ok (.iload_n 1, 1) := by decide +kernel
theorem dX1_init_39 : decode cX1_init 39 = .ok (.iconst 1, 1) := by decide +kernel
theorem dX1_init_40 : decode cX1_init 40 = .ok (.iadd, 1) := by decide +kernel
theorem dX1_init_41 : decode cX1_init 41 = .ok (.imul, 1) := by decide +kernel
theorem dX1_init_42 : decode cX1_init 42 = .ok (.iconst 2, 1) := by decide +kernel
theorem dX1_init_43 : decode cX1_init 43 = .ok (.idiv, 1) := by decide +kernel
theorem dX1_init_44 : decode cX1_init 44 = .ok (.iload_n 2, 1) := by decide +kernel
theorem dX1_init_45 : decode cX1_init 45 = .ok (.iadd, 1) := by decide +kernel
theorem dX1_init_46 : decode cX1_init 46 = .ok (.istore_n 3, 1) := by decide +kernel
theorem dX1_init_47 : decode cX1_init 47 = .ok (.iload_n 3, 1) := by decide +kernel
theorem dX1_init_48 : decode cX1_init 48 = .ok (.aload_n 0, 1) := by decide +kernel
theorem dX1_init_49 : decode cX1_init 49 = .ok (.getfield 11, 3) := by decide +kernel
theorem dX1_init_52 : decode cX1_init 52 = .ok (.arraylength, 1) := by decide +kernel
theorem dX1_init_53 : decode cX1_init 53 = .ok (.if_icmp .ge 36, 3) := by decide +kernel
theorem dX1_init_56 : decode cX1_init 56 = .ok (.aload_n 0, 1) := by decide +kernel
theorem dX1_init_57 : decode cX1_init 57 = .ok (.getfield 11, 3) := by decide +kernel
theorem dX1_init_60 : decode cX1_init 60 = .ok (.iload_n 3, 1) := by decide +kernel
theorem dX1_init_61 : decode cX1_init 61 = .ok (.iload_n 2, 1) := by decide +kernel
theorem dX1_init_62 : decode cX1_init 62 = .ok (.ifCond .ne 7, 3) := by decide +kernel
theorem dX1_init_65 : decode cX1_init 65 = .ok (.lconst 1, 1) := by decide +kernel
theorem dX1_init_66 : decode cX1_init 66 = .ok (.goto 22, 3) := by decide +kernel
theorem dX1_init_69 : decode cX1_init 69 = .ok (.aload_n 0, 1) := by decide +kernel
theorem dX1_init_70 : decode cX1_init 70 = .ok (.iload_n 1, 1) := by decide +kernel
theorem dX1_init_71 : decode cX1_init 71 = .ok (.iconst 1, 1) := by decide +kernel
theorem dX1_init_72 : decode cX1_init 72 = .ok (.isub, 1) := by decide +kernel
theorem dX1_init_73 : decode cX1_init 73 = .ok (.iload_n 2, 1) := by decide +kernel
theorem dX1_init_74 : decode cX1_init 74 = .ok (.iconst 1, 1) := by decide +kernel
theorem dX1_init_75 : decode cX1_init 75 = .ok (.isub, 1) := by decide +kernel
theorem dX1_init_76 : decode cX1_init 76 = .ok (.invokevirtual 18, 3) := by decide +kernel
theorem dX1_init_79 : decode cX1_init 79 = .ok (.aload_n 0, 1) := by decide +kernel
theorem dX1_init_80 : decode cX1_init 80 = .ok (.iload_n 1, 1) := by decide +kernel
theorem dX1_init_81 : decode cX1_init 81 = .ok (.iconst 1, 1) := by decide +kernel
theorem dX1_init_82 : decode cX1_init 82 = .ok (.isub, 1) := by decide +kernel
theorem dX1_init_83 : decode cX1_init 83 = .ok (.iload_n 2, 1) := by decide +kernel
theorem dX1_init_84 : decode cX1_init 84 = .ok (.invokevirtual 18, 3) := by decide +kernel
theorem dX1_init_87 : decode cX1_init 87 = .ok (.ladd, 1) := by decide +kernel
theorem dX1_init_88 : decode cX1_init 88 = .ok (.lastore, 1) := by decide +kernel
theorem dX1_init_89 : decode cX1_init 89 = .ok (.iinc 2 1, 3) := by decide +kernel
theorem dX1_init_92 : decode cX1_init 92 = .ok (.goto (-60), 3) := by decide +kernel
theorem dX1_init_95 : decode cX1_init 95 = .ok (.iinc 1 1, 3) := by decide +kernel
theorem dX1_init_98 : decode cX1_init 98 = .ok (.goto (-74), 3) := by decide +kernel
theorem dX1_init_101 : decode cX1_init 101 = .ok (.return_, 1) := by decide +kernel
theorem dX1_choose_0 : decode cX1_choose 0 = .ok (.iload_n 1, 1) := by decide +kernel
theorem dX1_choose_1 : decode cX1_choose 1 = .ok (.ifCond .lt 18, 3) := by decide +kernel
theorem dX1_choose_4 : decode cX1_choose 4 = .ok (.iload_n 1, 1) := by decide +kernel
theorem dX1_choose_5 : decode cX1_choose 5 = .ok (.bipush 60, 2) := by decide +kernel
theorem dX1_choose_7 : decode cX1_choose 7 = .ok (.if_icmp .gt 12, 3) := by decide +kernel
theorem dX1_choose_10 : decode cX1_choose 10 = .ok (.iload_n 2, 1) := by decide +kernel
theorem dX1_choose_11 : decode cX1_choose 11 = .ok (.ifCond .lt 8, 3) := by decide +kernel
theorem dX1_choose_14 : decode cX1_choose 14 = .ok (.iload_n 2, 1) := by decide +kernel
theorem dX1_choose_15 : decode cX1_choose 15 = .ok (.iload_n 1, 1) := by decide +kernel
theorem dX1_choose_16 : decode cX1_choose 16 = .ok (.if_icmp .le 5, 3) := by decide +kernel
theorem dX1_choose_19 : decode cX1_choose 19 = .ok (.lconst 0, 1) := by decide +kernel
theorem dX1_choose_20 : decode cX1_choose 20 = .ok (.lreturn, 1) := by decide +kernel
theorem dX1_choose_21 : decode cX1_choose 21 = .ok (.iload_n 1, 1) := by decide +kernel
theorem dX1_choose_22 : decode cX1_choose 22 = .ok (.iload_n 1, 1) := by decide +kernel
theorem dX1_choose_23 : decode cX1_choose 23 = .ok (.iconst 1, 1) := by decide +kernel
theorem dX1_choose_24 : decode cX1_choose 24 = .ok (.iadd, 1) := by decide +kernel
theorem dX1_choose_25 : decode cX1_choose 25 = .ok (.imul, 1) := by decide +kernel
theorem dX1_choose_26 : decode cX1_choose 26 = .ok (.iconst 2, 1) := by decide +kernel
theorem dX1_choose_27 : decode cX1_choose 27 = .ok (.idiv, 1) := by decide +kernel
theorem dX1_choose_28 : decode cX1_choose 28 = .ok (.iload_n 2, 1) := by decide +kernel
theorem dX1_choose_29 : decode cX1_choose 29 = .ok (.iadd, 1) := by decide +kernel
theorem dX1_choose_30 : decode cX1_choose 30 = .ok (.istore_n 3, 1) := by decide +kernel
theorem dX1_choose_31 : decode cX1_choose 31 = .ok (.iload_n 3, 1) := by decide +kernel
theorem dX1_choose_32 : decode cX1_choose 32 = .ok (.aload_n 0, 1) := by decide +kernel
theorem dX1_choose_33 : decode cX1_choose 33 = .ok (.getfield 11, 3) := by decide +kernel
theorem dX1_choose_36 : decode cX1_choose 36 = .ok (.arraylength, 1) := by decide +kernel
theorem dX1_choose_37 : decode cX1_choose 37 = .ok (.if_icmp .ge 12, 3) := by decide +kernel
theorem dX1_choose_40 : decode cX1_choose 40 = .ok (.aload_n 0, 1) := by decide +kernel
theorem dX1_choose_41 : decode cX1_choose 41 = .ok (.getfield 11, 3) := by decide +kernel
theorem dX1_choose_44 : decode cX1_choose 44 = .ok (.iload_n 3, 1) := by decide +kernel
theorem dX1_choose_45 : decode cX1_choose 45 = .ok (.laload, 1) := by decide +kernel
theorem dX1_choose_46 : decode cX1_choose 46 = .ok (.goto 4, 3) := by decide +kernel
theorem dX1_choose_49 : decode cX1_choose 49 = .ok (.lconst 0, 1) := by decide +kernel
theorem dX1_choose_50 : decode cX1_choose 50 = .ok (.lreturn, 1) := by decide +kernel
theorem dX1_lay_0 : decode cX1_lay 0 = .ok (.aload_n 0, 1) := by decide +kernel
theorem dX1_lay_1 : decode cX1_lay 1 = .ok (.iload_n 1, 1) := by decide +kernel
theorem dX1_lay_2 : decode cX1_lay 2 = .ok (.putfield 22, 3) := by decide +kernel
theorem dX1_lay_5 : decode cX1_lay 5 = .ok (.aload_n 0, 1) := by decide +kernel
theorem dX1_lay_6 : decode cX1_lay 6 = .ok (.iload_n 2, 1) := by decide +kernel
theorem dX1_lay_7 : decode cX1_lay 7 = .ok (.putfield 26, 3) := by decide +kernel
theorem dX1_lay_10 : decode cX1_lay 10 = .ok (.aload_n 0, 1) := by decide +kernel
theorem dX1_lay_11 : decode cX1_lay 11 = .ok (.iload_n 3, 1) := by decide +kernel
theorem dX1_lay_12 : decode cX1_lay 12 = .ok (.bipush 30, 2) := by decide +kernel
theorem dX1_lay_14 : decode cX1_lay 14 = .ok (.invokestatic 29, 3) := by decide +kernel
theorem dX1_lay_17 : decode cX1_lay 17 = .ok (.putfield 35, 3) := by decide +kernel
theorem dX1_lay_20 : decode cX1_lay 20 = .ok (.iconst 0, 1) := by decide +kernel
theorem dX1_lay_21 : decode cX1_lay 21 = .ok (.istore 4, 2) := by decide +kernel
theorem dX1_lay_23 : decode cX1_lay 23 = .ok (.iload 4, 2) := by decide +kernel
theorem dX1_lay_25 : decode cX1_lay 25 = .ok (.aload_n 0, 1) := by decide +kernel
theorem dX1_lay_26 : decode cX1_lay 26 = .ok (.getfield 22, 3) := by decide +kernel
theorem dX1_lay_29 : decode cX1_lay 29 = .ok (.if_icmp .gt 29, 3) := by decide +kernel
theorem dX1_lay_32 : decode cX1_lay 32 = .ok (.aload_n 0, 1) := by decide +kernel
theorem dX1_lay_33 : decode cX1_lay 33 = .ok (.aload_n 0, 1) := by decide +kernel
theorem dX1_lay_34 : decode cX1_lay 34 = .ok (.getfield 35, 3) := by decide +kernel
theorem dX1_lay_37 : decode cX1_lay 37 = .ok (.iload 4, 2) := by decide +kernel
theorem dX1_lay_39 : decode cX1_lay 39 = .ok (.aload_n 0, 1) := by decide +kernel
theorem dX1_lay_40 : decode cX1_lay 40 = .ok (.aload_n 0, 1) := by decide +kernel
theorem dX1_lay_41 : decode cX1_lay 41 = .ok (.getfield 22, 3) := by decide +kernel
theorem dX1_lay_44 : decode cX1_lay 44 = .ok (.iload 4, 2) := by decide +kernel
theorem dX1_lay_46 : decode cX1_lay 46 = .ok (.invokevirtual 18, 3) := by decide +kernel
theorem dX1_lay_49 : decode cX1_lay 49 = .ok (.invokevirtual 38, 3) := by decide +kernel
theorem dX1_lay_52 : decode cX1_lay 52 = .ok (.iinc 4 1, 3) := by decide +kernel
theorem dX1_lay_55 : decode cX1_lay 55 = .ok (.goto (-32), 3) := by decide +kernel
theorem dX1_lay_58 : decode cX1_lay 58 = .ok (.aload_n 0, 1) := by decide +kernel
theorem dX1_lay_59 : decode cX1_lay 59 = .ok (.getfield 35, 3) := by decide +kernel
theorem dX1_lay_62 : decode cX1_lay 62 = .ok (.iconst 1, 1) := by decide +kernel
theorem dX1_lay_63 : decode cX1_lay 63 = .ok (.isub, 1) := by decide +kernel
theorem dX1_lay_64 : decode cX1_lay 64 = .ok (.istore 4, 2) := by decide +kernel
theorem dX1_lay_66 : decode cX1_lay 66 = .ok (.iload 4, 2) := by decide +kernel
theorem dX1_lay_68 : decode cX1_lay 68 = .ok (.ifCond .lt 64, 3) := by decide +kernel
theorem dX1_lay_71 : decode cX1_lay 71 = .ok (.iconst 0, 1) := by decide +kernel
theorem dX1_lay_72 : decode cX1_lay 72 = .ok (.istore 5, 2) := by decide +kernel
theorem dX1_lay_74 : decode cX1_lay 74 = .ok (.iload 5, 2) := by decide +kernel
theorem dX1_lay_76 : decode cX1_lay 76 = .ok (.aload_n 0, 1) := by decide +kernel
theorem dX1_lay_77 : decode cX1_lay 77 = .ok (.iload 4, 2) := by decide +kernel
theorem dX1_lay_79 : decode cX1_lay 79 = .ok (.invokevirtual 42, 3) := by decide +kernel
theorem dX1_lay_82 : decode cX1_lay 82 = .ok (.if_icmp .gt 44, 3) := by decide +kernel
theorem dX1_lay_85 : decode cX1_lay 85 = .ok (.aload_n 0, 1) := by decide +kernel
theorem dX1_lay_86 : decode cX1_lay 86 = .ok (.iload 4, 2) := by decide +kernel
theorem dX1_lay_88 : decode cX1_lay 88 = .ok (.iload 5, 2) := by decide +kernel
theorem dX1_lay_90 : decode cX1_lay 90 = .ok (.aload_n 0, 1) := by decide +kernel
theorem dX1_lay_91 : decode cX1_lay 91 = .ok (.iload 4, 2) := by decide +kernel
theorem dX1_lay_93 : decode cX1_lay 93 = .ok (.iconst 1, 1) := by decide +kernel
theorem dX1_lay_94 : decode cX1_lay 94 = .ok (.iadd, 1) := by decide +kernel
theorem dX1_lay_95 : decode cX1_lay 95 = .ok (.iload 5, 2) := by decide +kernel
theorem dX1_lay_97 : decode cX1_lay 97 = .ok (.invokevirtual 46, 3) := by decide +kernel
theorem dX1_lay_100 : decode cX1_lay 100 = .ok (.ldc2_w 49, 3) := by decide +kernel
theorem dX1_lay_103 : decode cX1_lay 103 = .ok (.aload_n 0, 1) := by decide +kernel
theorem dX1_lay_104 : decode cX1_lay 104 = .ok (.iload 4, 2) := by decide +kernel
theorem dX1_lay_106 : decode cX1_lay 106 = .ok (.iconst 1, 1) := by decide +kernel
theorem dX1_lay_107 : decode cX1_lay 107 = .ok (.iadd, 1) := by decide +kernel
theorem dX1_lay_108 : decode cX1_lay 108 = .ok (.iload 5, 2) := by decide +kernel
theorem dX1_lay_110 : decode cX1_lay 110 = .ok (.iconst 1, 1) := by decide +kernel
theorem dX1_lay_111 : decode cX1_lay 111 = .ok (.isub, 1) := by decide +kernel
theorem dX1_lay_112 : decode cX1_lay 112 = .ok (.invokevirtual 46, 3) := by decide +kernel
theorem dX1_lay_115 : decode cX1_lay 115 = .ok (.lmul, 1) := by decide +kernel
theorem dX1_lay_116 : decode cX1_lay 116 = .ok (.ladd, 1) := by decide +kernel
theorem dX1_lay_117 : decode cX1_lay 117 = .ok (.invokevirtual 38, 3) := by decide +kernel
theorem dX1_lay_120 : decode cX1_lay 120 = .ok (.iinc 5 1, 3) := by decide +kernel
theorem dX1_lay_123 : decode cX1_lay 123 = .ok (.goto (-49), 3) := by decide +kernel
theorem dX1_lay_126 : decode cX1_lay 126 = .ok (.iinc 4 (-1), 3) := by decide +kernel
theorem dX1_lay_129 : decode cX1_lay 129 = .ok (.goto (-63), 3) := by decide +kernel
theorem dX1_lay_132 : decode cX1_lay 132 = .ok (.return_, 1) := by decide +kernel
theorem dX1_valid_0 : decode cX1_valid 0 = .ok (.aload_n 0, 1) := by decide +kernel
theorem dX1_valid_1 : decode cX1_valid 1 = .ok (.getfield 22, 3) := by decide +kernel
theorem dX1_valid_4 : decode cX1_valid 4 = .ok (.iconst 2, 1) := by decide +kernel
theorem dX1_valid_5 : decode cX1_valid 5 = .ok (.aload_n 0, 1) := by decide +kernel
theorem dX1_valid_6 : decode cX1_valid 6 = .ok (.getfield 35, 3) := by decide +kernel
theorem dX1_valid_9 : decode cX1_valid 9 = .ok (.imul, 1) := by decide +kernel
theorem dX1_valid_10 : decode cX1_valid 10 = .ok (.iadd, 1) := by decide +kernel
theorem dX1_valid_11 : decode cX1_valid 11 = .ok (.ireturn, 1) := by decide +kernel
theorem dX1_all_0 : decode cX1_all 0 = .ok (.aload_n 0, 1) := by decide +kernel
theorem dX1_all_1 : decode cX1_all 1 = .ok (.invokevirtual 51, 3) := by decide +kernel
theorem dX1_all_4 : decode cX1_all 4 = .ok (.aload_n 0, 1) := by decide +kernel
theorem dX1_all_5 : decode cX1_all 5 = .ok (.getfield 26, 3) := by decide +kernel
theorem dX1_all_8 : decode cX1_all 8 = .ok (.iadd, 1) := by decide +kernel
theorem dX1_all_9 : decode cX1_all 9 = .ok (.ireturn, 1) := by decide +kernel
theorem dX1_leastDoubles_0 : decode cX1_leastDoubles 0 = .ok (.iconst 0, 1) := by decide +kernel
theorem dX1_leastDoubles_1 : decode cX1_leastDoubles 1 = .ok (.iload_n 1, 1) := by decide +kernel
theorem dX1_leastDoubles_2 : decode cX1_leastDoubles 2 = .ok (.aload_n 0, 1) := by decide +kernel
theorem dX1_leastDoubles_3 : decode cX1_leastDoubles 3 = .ok (.iconst 0, 1) := by decide +kernel
theorem dX1_leastDoubles_4 : decode cX1_leastDoubles 4 = .ok (.invokevirtual 42, 3) := by decide +kernel
theorem dX1_leastDoubles_7 : decode cX1_leastDoubles 7 = .ok (.isub, 1) := by decide +kernel
theorem dX1_leastDoubles_8 : decode cX1_leastDoubles 8 = .ok (.invokestatic 55, 3) := by decide +kernel
theorem dX1_leastDoubles_11 : decode cX1_leastDoubles 11 = .ok (.ireturn, 1) := by decide +kernel
theorem dX1_ways_0 : decode cX1_ways 0 = .ok (.aload_n 0, 1) := by decide +kernel
theorem dX1_ways_1 : decode cX1_ways 1 = .ok (.aload_n 0, 1) := by decide +kernel
theorem dX1_ways_2 : decode cX1_ways 2 = .ok (.getfield 35, 3) := by decide +kernel
theorem dX1_ways_5 : decode cX1_ways 5 = .ok (.iload_n 3, 1) := by decide +kernel
theorem dX1_ways_6 : decode cX1_ways 6 = .ok (.invokevirtual 18, 3) := by decide +kernel
theorem dX1_ways_9 : decode cX1_ways 9 = .ok (.aload_n 0, 1) := by decide +kernel
theorem dX1_ways_10 : decode cX1_ways 10 = .ok (.iload_n 3, 1) := by decide +kernel
theorem dX1_ways_11 : decode cX1_ways 11 = .ok (.iload_n 2, 1) := by decide +kernel
theorem dX1_ways_12 : decode cX1_ways 12 = .ok (.iconst 2, 1) := by decide +kernel
theorem dX1_ways_13 : decode cX1_ways 13 = .ok (.iload_n 3, 1) := by decide +kernel
theorem dX1_ways_14 : decode cX1_ways 14 = .ok (.imul, 1) := by decide +kernel
theorem dX1_ways_15 : decode cX1_ways 15 = .ok (.isub, 1) := by decide +kernel
theorem dX1_ways_16 : decode cX1_ways 16 = .ok (.invokevirtual 46, 3) := by decide +kernel
theorem dX1_ways_19 : decode cX1_ways 19 = .ok (.lmul, 1) := by decide +kernel
theorem dX1_ways_20 : decode cX1_ways 20 = .ok (.aload_n 0, 1) := by decide +kernel
theorem dX1_ways_21 : decode cX1_ways 21 = .ok (.aload_n 0, 1) := by decide +kernel
theorem dX1_ways_22 : decode cX1_ways 22 = .ok (.getfield 26, 3) := by decide +kernel
theorem dX1_ways_25 : decode cX1_ways 25 = .ok (.iload_n 1, 1) := by decide +kernel
theorem dX1_ways_26 : decode cX1_ways 26 = .ok (.iload_n 2, 1) := by decide +kernel
theorem dX1_ways_27 : decode cX1_ways 27 = .ok (.isub, 1) := by decide +kernel
theorem dX1_ways_28 : decode cX1_ways 28 = .ok (.invokevirtual 18, 3) := by decide +kernel
theorem dX1_ways_31 : decode cX1_ways 31 = .ok (.lmul, 1) := by decide +kernel
theorem dX1_ways_32 : decode cX1_ways 32 = .ok (.lreturn, 1) := by decide +kernel
theorem dX1_people_0 : decode cX1_people 0 = .ok (.aload_n 0, 1) := by decide +kernel
theorem dX1_people_1 : decode cX1_people 1 = .ok (.getfield 22, 3) := by decide +kernel
theorem dX1_people_4 : decode cX1_people 4 = .ok (.aload_n 0, 1) := by decide +kernel
theorem dX1_people_5 : decode cX1_people 5 = .ok (.getfield 35, 3) := by decide +kernel
theorem dX1_people_8 : decode cX1_people 8 = .ok (.iadd, 1) := by decide +kernel
theorem dX1_people_9 : decode cX1_people 9 = .ok (.iload_n 1, 1) := by decide +kernel
theorem dX1_people_10 : decode cX1_people 10 = .ok (.isub, 1) := by decide +kernel
theorem dX1_people_11 : decode cX1_people 11 = .ok (.ireturn, 1) := by decide +kernel
theorem dX1_read_0 : decode cX1_read 0 = .ok (.iload_n 1, 1) := by decide +kernel
theorem dX1_read_1 : decode cX1_read 1 = .ok (.bipush 61, 2) := by decide +kernel
theorem dX1_read_3 : decode cX1_read 3 = .ok (.imul, 1) := by decide +kernel
theorem dX1_read_4 : decode cX1_read 4 = .ok (.iload_n 2, 1) := by decide +kernel
theorem dX1_read_5 : decode cX1_read 5 = .ok (.iadd, 1) := by decide +kernel
theorem dX1_read_6 : decode cX1_read 6 = .ok (.istore_n 3, 1) := by decide +kernel
theorem dX1_read_7 : decode cX1_read 7 = .ok (.iload_n 2, 1) := by decide +kernel
theorem dX1_read_8 : decode cX1_read 8 = .ok (.ifCond .lt 34, 3) := by decide +kernel
theorem dX1_read_11 : decode cX1_read 11 = .ok (.iload_n 2, 1) := by decide +kernel
theorem dX1_read_12 : decode cX1_read 12 = .ok (.aload_n 0, 1) := by decide +kernel
theorem dX1_read_13 : decode cX1_read 13 = .ok (.iload_n 1, 1) := by decide +kernel
theorem dX1_read_14 : decode cX1_read 14 = .ok (.invokevirtual 42, 3) := by decide +kernel
theorem dX1_read_17 : decode cX1_read 17 = .ok (.if_icmp .gt 25, 3) := by decide +kernel
theorem dX1_read_20 : decode cX1_read 20 = .ok (.iload_n 3, 1) := by decide +kernel
theorem dX1_read_21 : decode cX1_read 21 = .ok (.ifCond .lt 21, 3) := by decide +kernel
theorem dX1_read_24 : decode cX1_read 24 = .ok (.iload_n 3, 1) := by decide +kernel
theorem dX1_read_25 : decode cX1_read 25 = .ok (.aload_n 0, 1) := by decide +kernel
theorem dX1_read_26 : decode cX1_read 26 = .ok (.getfield 15, 3) := by decide +kernel
theorem dX1_read_29 : decode cX1_read 29 = .ok (.arraylength, 1) := by decide +kernel
theorem dX1_read_30 : decode cX1_read 30 = .ok (.if_icmp .ge 12, 3) := by decide +kernel
theorem dX1_read_33 : decode cX1_read 33 = .ok (.aload_n 0, 1) := by decide +kernel
theorem dX1_read_34 : decode cX1_read 34 = .ok (.getfield 15, 3) := by decide +kernel
theorem dX1_read_37 : decode cX1_read 37 = .ok (.iload_n 3, 1) := by decide +kernel
theorem dX1_read_38 : decode cX1_read 38 = .ok (.laload, 1) := by decide +kernel
theorem dX1_read_39 : decode cX1_read 39 = .ok (.goto 4, 3) := by decide +kernel
theorem dX1_read_42 : decode cX1_read 42 = .ok (.lconst 0, 1) := by decide +kernel
theorem dX1_read_43 : decode cX1_read 43 = .ok (.lreturn, 1) := by decide +kernel
theorem dX1_write_0 : decode cX1_write 0 = .ok (.iload_n 1, 1) := by decide +kernel
theorem dX1_write_1 : decode cX1_write 1 = .ok (.bipush 61, 2) := by decide +kernel
theorem dX1_write_3 : decode cX1_write 3 = .ok (.imul, 1) := by decide +kernel
theorem dX1_write_4 : decode cX1_write 4 = .ok (.iload_n 2, 1) := by decide +kernel
theorem dX1_write_5 : decode cX1_write 5 = .ok (.iadd, 1) := by decide +kernel
theorem dX1_write_6 : decode cX1_write 6 = .ok (.istore 5, 2) := by decide +kernel
theorem dX1_write_8 : decode cX1_write 8 = .ok (.iload 5, 2) := by decide +kernel
theorem dX1_write_10 : decode cX1_write 10 = .ok (.ifCond .lt 21, 3) := by decide +kernel
theorem dX1_write_13 : decode cX1_write 13 = .ok (.iload 5, 2) := by decide +kernel
theorem dX1_write_15 : decode cX1_write 15 = .ok (.aload_n 0, 1) := by decide +kernel
theorem dX1_write_16 : decode cX1_write 16 = .ok (.getfield 15, 3) := by decide +kernel
theorem dX1_write_19 : decode cX1_write 19 = .ok (.arraylength, 1) := by decide +kernel
theorem dX1_write_20 : decode cX1_write 20 = .ok (.if_icmp .ge 11, 3) := by decide +kernel
theorem dX1_write_23 : decode cX1_write 23 = .ok (.aload_n 0, 1) := by decide +kernel
theorem dX1_write_24 : decode cX1_write 24 = .ok (.getfield 15, 3) := by decide +kernel
theorem dX1_write_27 : decode cX1_write 27 = .ok (.iload 5, 2) := by decide +kernel
theorem dX1_write_29 : decode cX1_write 29 = .ok (.lload_n 3, 1) := by decide +kernel
theorem dX1_write_30 : decode cX1_write 30 = .ok (.lastore, 1) := by decide +kernel
theorem dX1_write_31 : decode cX1_write 31 = .ok (.return_, 1) := by decide +kernel
theorem dX2_init_0 : decode cX2_init 0 = .ok (.aload_n 0, 1) := by decide +kernel
theorem dX2_init_1 : decode cX2_init 1 = .ok (.invokespecial 3, 3) := by decide +kernel
theorem dX2_init_4 : decode cX2_init 4 = .ok (.aload_n 0, 1) := by decide +kernel
theorem dX2_init_5 : decode cX2_init 5 = .ok (.bipush 11, 2) := by decide +kernel
theorem dX2_init_7 : decode cX2_init 7 = .ok (.newarray .long, 2) := by decide +kernel
theorem dX2_init_9 : decode cX2_init 9 = .ok (.putfield 9, 3) := by decide +kernel
theorem dX2_init_12 : decode cX2_init 12 = .ok (.aload_n 0, 1) := by decide +kernel
theorem dX2_init_13 : decode cX2_init 13 = .ok (.bipush 11, 2) := by decide +kernel
theorem dX2_init_15 : decode cX2_init 15 = .ok (.newarray .long, 2) := by decide +kernel
theorem dX2_init_17 : decode cX2_init 17 = .ok (.putfield 15, 3) := by decide +kernel
theorem dX2_init_20 : decode cX2_init 20 = .ok (.return_, 1) := by decide +kernel
theorem dX2_reckon_0 : decode cX2_reckon 0 = .ok (.aload_n 0, 1) := by decide +kernel
theorem dX2_reckon_1 : decode cX2_reckon 1 = .ok (.iconst 0, 1) := by decide +kernel
theorem dX2_reckon_2 : decode cX2_reckon 2 = .ok (.putfield 18, 3) := by decide +kernel
theorem dX2_reckon_5 : decode cX2_reckon 5 = .ok (.aload_n 1, 1) := by decide +kernel
theorem dX2_reckon_6 : decode cX2_reckon 6 = .ok (.getfield 22, 3) := by decide +kernel
theorem dX2_reckon_9 : decode cX2_reckon 9 = .ok (.iconst 1, 1) := by decide +kernel
theorem dX2_reckon_10 : decode cX2_reckon 10 = .ok (.isub, 1) := by decide +kernel
theorem dX2_reckon_11 : decode cX2_reckon 11 = .ok (.istore 6, 2) := by decide +kernel
theorem dX2_reckon_13 : decode cX2_reckon 13 = .ok (.iload 6, 2) := by decide +kernel
theorem dX2_reckon_15 : decode cX2_reckon 15 = .ok (.ifCond .lt 58, 3) := by decide +kernel
theorem dX2_reckon_18 : decode cX2_reckon 18 = .ok (.aload_n 1, 1) := by decide +kernel
theorem dX2_reckon_19 : decode cX2_reckon 19 = .ok (.iload 6, 2) := by decide +kernel
theorem dX2_reckon_21 : decode cX2_reckon 21 = .ok (.invokevirtual 27, 3) := by decide +kernel
theorem dX2_reckon_24 : decode cX2_reckon 24 = .ok (.istore 7, 2) := by decide +kernel
theorem dX2_reckon_26 : decode cX2_reckon 26 = .ok (.iload 7, 2) := by decide +kernel
theorem dX2_reckon_28 : decode cX2_reckon 28 = .ok (.invokestatic 31, 3) := by decide +kernel
theorem dX2_reckon_31 : decode cX2_reckon 31 = .ok (.ifCond .eq 12, 3) := by decide +kernel
theorem dX2_reckon_34 : decode cX2_reckon 34 = .ok (.aload_n 0, 1) := by decide +kernel
theorem dX2_reckon_35 : decode cX2_reckon 35 = .ok (.iload 7, 2) := by decide +kernel
theorem dX2_reckon_37 : decode cX2_reckon 37 = .ok (.invokevirtual 35, 3) := by decide +kernel
theorem dX2_reckon_40 : decode cX2_reckon 40 = .ok (.goto 18, 3) := by decide +kernel
theorem dX2_reckon_43 : decode cX2_reckon 43 = .ok (.aload_n 0, 1) := by decide +kernel
theorem dX2_reckon_44 : decode cX2_reckon 44 = .ok (.iload 7, 2) := by decide +kernel
theorem dX2_reckon_46 : decode cX2_reckon 46 = .ok (.iload_n 2, 1) := by decide +kernel
theorem dX2_reckon_47 : decode cX2_reckon 47 = .ok (.iload_n 3, 1) := by decide +kernel
theorem dX2_reckon_48 : decode cX2_reckon 48 = .ok (.iload 4, 2) := by decide +kernel
theorem dX2_reckon_50 : decode cX2_reckon 50 = .ok (.iload 5, 2) := by decide +kernel
theorem dX2_reckon_52 : decode cX2_reckon 52 = .ok (.invokestatic 38, 3) := by decide +kernel
theorem dX2_reckon_55 : decode cX2_reckon 55 = .ok (.invokevirtual 42, 3) := by decide +kernel
theorem dX2_reckon_58 : decode cX2_reckon 58 = .ok (.istore 8, 2) := by decide +kernel
theorem dX2_reckon_60 : decode cX2_reckon 60 = .ok (.iload 8, 2) := by decide +kernel
theorem dX2_reckon_62 : decode cX2_reckon 62 = .ok (.ifCond .ne 5, 3) := by decide +kernel
theorem dX2_reckon_65 : decode cX2_reckon 65 = .ok (.iconst 0, 1) := by decide +kernel
theorem dX2_reckon_66 : decode cX2_reckon 66 = .ok (.ireturn, 1) := by decide +kernel
theorem dX2_reckon_67 : decode cX2_reckon 67 = .ok (.iinc 6 (-1), 3) := by decide +kernel
theorem dX2_reckon_70 : decode cX2_reckon 70 = .ok (.goto (-57), 3) := by decide +kernel
theorem dX2_reckon_73 : decode cX2_reckon 73 = .ok (.aload_n 0, 1) := by decide +kernel
theorem dX2_reckon_74 : decode cX2_reckon 74 = .ok (.getfield 18, 3) := by decide +kernel
theorem dX2_reckon_77 : decode cX2_reckon 77 = .ok (.iconst 1, 1) := by decide +kernel
theorem dX2_reckon_78 : decode cX2_reckon 78 = .ok (.if_icmp .ne 7, 3) := by decide +kernel
theorem dX2_reckon_81 : decode cX2_reckon 81 = .ok (.iconst 1, 1) := by decide +kernel
theorem dX2_reckon_82 : decode cX2_reckon 82 = .ok (.goto 4, 3) := by decide +kernel
theorem dX2_reckon_85 : decode cX2_reckon 85 = .ok (.iconst 0, 1) := by decide +kernel
theorem dX2_reckon_86 : decode cX2_reckon 86 = .ok (.ireturn, 1) := by decide +kernel
theorem dX2_reachesNeed_0 : decode cX2_reachesNeed 0 = .ok (.aload_n 0, 1) := by decide +kernel
theorem dX2_reachesNeed_1 : decode cX2_reachesNeed 1 = .ok (.aload_n 1, 1) := by decide +kernel
theorem dX2_reachesNeed_2 : decode cX2_reachesNeed 2 = .ok (.getfield 45, 3) := by decide +kernel
theorem dX2_reachesNeed_5 : decode cX2_reachesNeed 5 = .ok (.iload_n 2, 1) := by decide +kernel
theorem dX2_reachesNeed_6 : decode cX2_reachesNeed 6 = .ok (.iload_n 3, 1) := by decide +kernel
theorem dX2_reachesNeed_7 : decode cX2_reachesNeed 7 = .ok (.iload 4, 2) := by decide +kernel
theorem dX2_reachesNeed_9 : decode cX2_reachesNeed 9 = .ok (.iload 5, 2) := by decide +kernel
theorem dX2_reachesNeed_11 : decode cX2_reachesNeed 11 = .ok (.invokevirtual 51, 3) := by decide +kernel
theorem dX2_reachesNeed_14 : decode cX2_reachesNeed 14 = .ok (.ifCond .eq 25, 3) := by decide +kernel
theorem dX2_reachesNeed_17 : decode cX2_reachesNeed 17 = .ok (.aload_n 0, 1) := by decide +kernel
theorem dX2_reachesNeed_18 : decode cX2_reachesNeed 18 = .ok (.invokevirtual 55, 3) := by decide +kernel
theorem dX2_reachesNeed_21 : decode cX2_reachesNeed 21 = .ok (.aload_n 1, 1) := by decide +kernel
theorem dX2_reachesNeed_22 : decode cX2_reachesNeed 22 = .ok (.getfield 59, 3) := by decide +kernel
theorem dX2_reachesNeed_25 : decode cX2_reachesNeed 25 = .ok (.i2l, 1) := by decide +kernel
theorem dX2_reachesNeed_26 : decode cX2_reachesNeed 26 = .ok (.aload_n 0, 1) := by decide +kernel
theorem dX2_reachesNeed_27 : decode cX2_reachesNeed 27 = .ok (.invokevirtual 62, 3) := by decide +kernel
theorem dX2_reachesNeed_30 : decode cX2_reachesNeed 30 = .ok (.lmul, 1) := by decide +kernel
theorem dX2_reachesNeed_31 : decode cX2_reachesNeed 31 = .ok (.lcmp, 1) := by decide +kernel
theorem dX2_reachesNeed_32 : decode cX2_reachesNeed 32 = .ok (.ifCond .lt 7, 3) := by decide +kernel
theorem dX2_reachesNeed_35 : decode cX2_reachesNeed 35 = .ok (.iconst 1, 1) := by decide +kernel
theorem dX2_reachesNeed_36 : decode cX2_reachesNeed 36 = .ok (.goto 4, 3) := by decide +kernel
theorem dX2_reachesNeed_39 : decode cX2_reachesNeed 39 = .ok (.iconst 0, 1) := by decide +kernel
theorem dX2_reachesNeed_40 : decode cX2_reachesNeed 40 = .ok (.ireturn, 1) := by decide +kernel
theorem dX2_upper_0 : decode cX2_upper 0 = .ok (.aload_n 0, 1) := by decide +kernel
theorem dX2_upper_1 : decode cX2_upper 1 = .ok (.getfield 9, 3) := by decide +kernel
theorem dX2_upper_4 : decode cX2_upper 4 = .ok (.arraylength, 1) := by decide +kernel
theorem dX2_upper_5 : decode cX2_upper 5 = .ok (.ifCond .le 12, 3) := by decide +kernel
theorem dX2_upper_8 : decode cX2_upper 8 = .ok (.aload_n 0, 1) := by decide +kernel
theorem dX2_upper_9 : decode cX2_upper 9 = .ok (.getfield 9, 3) := by decide +kernel
theorem dX2_upper_12 : decode cX2_upper 12 = .ok (.iconst 0, 1) := by decide +kernel
theorem dX2_upper_13 : decode cX2_upper 13 = .ok (.laload, 1) := by decide +kernel
theorem dX2_upper_14 : decode cX2_upper 14 = .ok (.goto 4, 3) := by decide +kernel
theorem dX2_upper_17 : decode cX2_upper 17 = .ok (.lconst 0, 1) := by decide +kernel
theorem dX2_upper_18 : decode cX2_upper 18 = .ok (.lreturn, 1) := by decide +kernel
theorem dX2_lower_0 : decode cX2_lower 0 = .ok (.aload_n 0, 1) := by decide +kernel
theorem dX2_lower_1 : decode cX2_lower 1 = .ok (.getfield 15, 3) := by decide +kernel
theorem dX2_lower_4 : decode cX2_lower 4 = .ok (.arraylength, 1) := by decide +kernel
theorem dX2_lower_5 : decode cX2_lower 5 = .ok (.ifCond .le 12, 3) := by decide +kernel
theorem dX2_lower_8 : decode cX2_lower 8 = .ok (.aload_n 0, 1) := by decide +kernel
theorem dX2_lower_9 : decode cX2_lower 9 = .ok (.getfield 15, 3) := by decide +kernel
theorem dX2_lower_12 : decode cX2_lower 12 = .ok (.iconst 0, 1) := by decide +kernel
theorem dX2_lower_13 : decode cX2_lower 13 = .ok (.laload, 1) := by decide +kernel
theorem dX2_lower_14 : decode cX2_lower 14 = .ok (.goto 4, 3) := by decide +kernel
theorem dX2_lower_17 : decode cX2_lower 17 = .ok (.lconst 1, 1) := by decide +kernel
theorem dX2_lower_18 : decode cX2_lower 18 = .ok (.lreturn, 1) := by decide +kernel
theorem dX2_valueOf_0 : decode cX2_valueOf 0 = .ok (.iload_n 0, 1) := by decide +kernel
theorem dX2_valueOf_1 : decode cX2_valueOf 1 = .ok (.lookupswitch 52 #[(78, 43), (100, 49), (107, 45), (118, 47)], 43) := by decide +kernel
theorem dX2_valueOf_44 : decode cX2_valueOf 44 = .ok (.iload_n 1, 1) := by decide +kernel
theorem dX2_valueOf_45 : decode cX2_valueOf 45 = .ok (.ireturn, 1) := by decide +kernel
theorem dX2_valueOf_46 : decode cX2_valueOf 46 = .ok (.iload_n 2, 1) := by decide +kernel
theorem dX2_valueOf_47 : decode cX2_valueOf 47 = .ok (.ireturn, 1) := by decide +kernel
theorem dX2_valueOf_48 : decode cX2_valueOf 48 = .ok (.iload_n 3, 1) := by decide +kernel
theorem dX2_valueOf_49 : decode cX2_valueOf 49 = .ok (.ireturn, 1) := by decide +kernel
theorem dX2_valueOf_50 : decode cX2_valueOf 50 = .ok (.iload 4, 2) := by decide +kernel
theorem dX2_valueOf_52 : decode cX2_valueOf 52 = .ok (.ireturn, 1) := by decide +kernel
theorem dX2_valueOf_53 : decode cX2_valueOf 53 = .ok (.iload_n 0, 1) := by decide +kernel
theorem dX2_valueOf_54 : decode cX2_valueOf 54 = .ok (.bipush 48, 2) := by decide +kernel
theorem dX2_valueOf_56 : decode cX2_valueOf 56 = .ok (.isub, 1) := by decide +kernel
theorem dX2_valueOf_57 : decode cX2_valueOf 57 = .ok (.ireturn, 1) := by decide +kernel
theorem dX2_push_0 : decode cX2_push 0 = .ok (.aload_n 0, 1) := by decide +kernel
theorem dX2_push_1 : decode cX2_push 1 = .ok (.dup, 1) := by decide +kernel
theorem dX2_push_2 : decode cX2_push 2 = .ok (.getfield 18, 3) := by decide +kernel
theorem dX2_push_5 : decode cX2_push 5 = .ok (.iconst 1, 1) := by decide +kernel
theorem dX2_push_6 : decode cX2_push 6 = .ok (.iadd, 1) := by decide +kernel
theorem dX2_push_7 : decode cX2_push 7 = .ok (.putfield 18, 3) := by decide +kernel
theorem dX2_push_10 : decode cX2_push 10 = .ok (.aload_n 0, 1) := by decide +kernel
theorem dX2_push_11 : decode cX2_push 11 = .ok (.aload_n 0, 1) := by decide +kernel
theorem dX2_push_12 : decode cX2_push 12 = .ok (.getfield 18, 3) := by decide +kernel
theorem dX2_push_15 : decode cX2_push 15 = .ok (.iconst 1, 1) := by decide +kernel
theorem dX2_push_16 : decode cX2_push 16 = .ok (.isub, 1) := by decide +kernel
theorem dX2_push_17 : decode cX2_push 17 = .ok (.iload_n 1, 1) := by decide +kernel
theorem dX2_push_18 : decode cX2_push 18 = .ok (.i2l, 1) := by decide +kernel
theorem dX2_push_19 : decode cX2_push 19 = .ok (.lconst 1, 1) := by decide +kernel
theorem dX2_push_20 : decode cX2_push 20 = .ok (.invokevirtual 65, 3) := by decide +kernel
theorem dX2_push_23 : decode cX2_push 23 = .ok (.ireturn, 1) := by decide +kernel
theorem dX2_combine_0 : decode cX2_combine 0 = .ok (.aload_n 0, 1) := by decide +kernel
theorem dX2_combine_1 : decode cX2_combine 1 = .ok (.getfield 18, 3) := by decide +kernel
theorem dX2_combine_4 : decode cX2_combine 4 = .ok (.iconst 1, 1) := by decide +kernel
theorem dX2_combine_5 : decode cX2_combine 5 = .ok (.isub, 1) := by decide +kernel
theorem dX2_combine_6 : decode cX2_combine 6 = .ok (.istore_n 2, 1) := by decide +kernel
theorem dX2_combine_7 : decode cX2_combine 7 = .ok (.aload_n 0, 1) := by decide +kernel
theorem dX2_combine_8 : decode cX2_combine 8 = .ok (.getfield 18, 3) := by decide +kernel
theorem dX2_combine_11 : decode cX2_combine 11 = .ok (.iconst 2, 1) := by decide +kernel
theorem dX2_combine_12 : decode cX2_combine 12 = .ok (.isub, 1) := by decide +kernel
theorem dX2_combine_13 : decode cX2_combine 13 = .ok (.istore_n 3, 1) := by decide +kernel
theorem dX2_combine_14 : decode cX2_combine 14 = .ok (.iload_n 3, 1) := by decide +kernel
theorem dX2_combine_15 : decode cX2_combine 15 = .ok (.ifCond .lt 21, 3) := by decide +kernel
theorem dX2_combine_18 : decode cX2_combine 18 = .ok (.iload_n 2, 1) := by decide +kernel
theorem dX2_combine_19 : decode cX2_combine 19 = .ok (.aload_n 0, 1) := by decide +kernel
theorem dX2_combine_20 : decode cX2_combine 20 = .ok (.getfield 9, 3) := by decide +kernel
theorem dX2_combine_23 : decode cX2_combine 23 = .ok (.arraylength, 1) := by decide +kernel
theorem dX2_combine_24 : decode cX2_combine 24 = .ok (.if_icmp .ge 12, 3) := by decide +kernel
theorem dX2_combine_27 : decode cX2_combine 27 = .ok (.iload_n 2, 1) := by decide +kernel
theorem dX2_combine_28 : decode cX2_combine 28 = .ok (.aload_n 0, 1) := by decide +kernel
theorem dX2_combine_29 : decode cX2_combine 29 = .ok (.getfield 15, 3) := by decide +kernel
theorem dX2_combine_32 : decode cX2_combine 32 = .ok (.arraylength, 1) := by decide +kernel
theorem dX2_combine_33 : decode cX2_combine 33 = .ok (.if_icmp .lt 5, 3) := by decide +kernel
theorem dX2_combine_36 : decode cX2_combine 36 = .ok (.iconst 0, 1) := by decide +kernel
theorem dX2_combine_37 : decode cX2_combine 37 = .ok (.ireturn, 1) := by decide +kernel
theorem dX2_combine_38 : decode cX2_combine 38 = .ok (.aload_n 0, 1) := by decide +kernel
theorem dX2_combine_39 : decode cX2_combine 39 = .ok (.getfield 9, 3) := by decide +kernel
theorem dX2_combine_42 : decode cX2_combine 42 = .ok (.iload_n 2, 1) := by decide +kernel
theorem dX2_combine_43 : decode cX2_combine 43 = .ok (.laload, 1) := by decide +kernel
theorem dX2_combine_44 : decode cX2_combine 44 = .ok (.lstore 4, 2) := by decide +kernel
theorem dX2_combine_46 : decode cX2_combine 46 = .ok (.aload_n 0, 1) := by decide +kernel
theorem dX2_combine_47 : decode cX2_combine 47 = .ok (.getfield 15, 3) := by decide +kernel
theorem dX2_combine_50 : decode cX2_combine 50 = .ok (.iload_n 2, 1) := by decide +kernel
theorem dX2_combine_51 : decode cX2_combine 51 = .ok (.laload, 1) := by decide +kernel
theorem dX2_combine_52 : decode cX2_combine 52 = .ok (.lstore 6, 2) := by decide +kernel
theorem dX2_combine_54 : decode cX2_combine 54 = .ok (.aload_n 0, 1) := by decide +kernel
theorem dX2_combine_55 : decode cX2_combine 55 = .ok (.getfield 9, 3) := by decide +kernel
theorem dX2_combine_58 : decode cX2_combine 58 = .ok (.iload_n 3, 1) := by decide +kernel
theorem dX2_combine_59 : decode cX2_combine 59 = .ok (.laload, 1) := by decide +kernel
theorem dX2_combine_60 : decode cX2_combine 60 = .ok (.lstore 8, 2) := by decide +kernel
theorem dX2_combine_62 : decode cX2_combine 62 = .ok (.aload_n 0, 1) := by decide +kernel
theorem dX2_combine_63 : decode cX2_combine 63 = .ok (.getfield 15, 3) := by decide +kernel
theorem dX2_combine_66 : decode cX2_combine 66 = .ok (.iload_n 3, 1) := by decide +kernel
theorem dX2_combine_67 : decode cX2_combine 67 = .ok (.laload, 1) := by decide +kernel
theorem dX2_combine_68 : decode cX2_combine 68 = .ok (.lstore 10, 2) := by decide +kernel
theorem dX2_combine_70 : decode cX2_combine 70 = .ok (.aload_n 0, 1) := by decide +kernel
theorem dX2_combine_71 : decode cX2_combine 71 = .ok (.iload_n 2, 1) := by decide +kernel
theorem dX2_combine_72 : decode cX2_combine 72 = .ok (.putfield 18, 3) := by decide +kernel
theorem dX2_combine_75 : decode cX2_combine 75 = .ok (.iload_n 1, 1) := by decide +kernel
theorem dX2_combine_76 : decode cX2_combine 76 = .ok (.tableswitch 92 42 45 #[76, 32, 92, 54], 32) := by decide +kernel
theorem dX2_combine_108 : decode cX2_combine 108 = .ok (.aload_n 0, 1) := by decide +kernel
theorem dX2_combine_109 : decode cX2_combine 109 = .ok (.iload_n 3, 1) := by decide +kernel
theorem dX2_combine_110 : decode cX2_combine 110 = .ok (.lload 4, 2) := by decide +kernel
theorem dX2_combine_112 : decode cX2_combine 112 = .ok (.lload 10, 2) := by decide +kernel
theorem dX2_combine_114 : decode cX2_combine 114 = .ok (.lmul, 1) := by decide +kernel
theorem dX2_combine_115 : decode cX2_combine 115 = .ok (.lload 8, 2) := by decide +kernel
theorem dX2_combine_117 : decode cX2_combine 117 = .ok (.lload 6, 2) := by decide +kernel
theorem dX2_combine_119 : decode cX2_combine 119 = .ok (.lmul, 1) := by decide +kernel
theorem dX2_combine_120 : decode cX2_combine 120 = .ok (.ladd, 1) := by decide +kernel
theorem dX2_combine_121 : decode cX2_combine 121 = .ok (.lload 6, 2) := by decide +kernel
theorem dX2_combine_123 : decode cX2_combine 123 = .ok (.lload 10, 2) := by decide +kernel
theorem dX2_combine_125 : decode cX2_combine 125 = .ok (.lmul, 1) := by decide +kernel
theorem dX2_combine_126 : decode cX2_combine 126 = .ok (.invokevirtual 65, 3) := by decide +kernel
theorem dX2_combine_129 : decode cX2_combine 129 = .ok (.ireturn, 1) := by decide +kernel
theorem dX2_combine_130 : decode cX2_combine 130 = .ok (.aload_n 0, 1) := by decide +kernel
theorem dX2_combine_131 : decode cX2_combine 131 = .ok (.iload_n 3, 1) := by decide +kernel
theorem dX2_combine_132 : decode cX2_combine 132 = .ok (.lload 4, 2) := by decide +kernel
theorem dX2_combine_134 : decode cX2_combine 134 = .ok (.lload 10, 2) := by decide +kernel
theorem dX2_combine_136 : decode cX2_combine 136 = .ok (.lmul, 1) := by decide +kernel
theorem dX2_combine_137 : decode cX2_combine 137 = .ok (.lload 8, 2) := by decide +kernel
theorem dX2_combine_139 : decode cX2_combine 139 = .ok (.lload 6, 2) := by decide +kernel
theorem dX2_combine_141 : decode cX2_combine 141 = .ok (.lmul, 1) := by decide +kernel
theorem dX2_combine_142 : decode cX2_combine 142 = .ok (.lsub, 1) := by decide +kernel
theorem dX2_combine_143 : decode cX2_combine 143 = .ok (.lload 6, 2) := by decide +kernel
theorem dX2_combine_145 : decode cX2_combine 145 = .ok (.lload 10, 2) := by decide +kernel
theorem dX2_combine_147 : decode cX2_combine 147 = .ok (.lmul, 1) := by decide +kernel
theorem dX2_combine_148 : decode cX2_combine 148 = .ok (.invokevirtual 65, 3) := by decide +kernel
theorem dX2_combine_151 : decode cX2_combine 151 = .ok (.ireturn, 1) := by decide +kernel
theorem dX2_combine_152 : decode cX2_combine 152 = .ok (.aload_n 0, 1) := by decide +kernel
theorem dX2_combine_153 : decode cX2_combine 153 = .ok (.iload_n 3, 1) := by decide +kernel
theorem dX2_combine_154 : decode cX2_combine 154 = .ok (.lload 4, 2) := by decide +kernel
theorem dX2_combine_156 : decode cX2_combine 156 = .ok (.lload 8, 2) := by decide +kernel
theorem dX2_combine_158 : decode cX2_combine 158 = .ok (.lmul, 1) := by decide +kernel
theorem dX2_combine_159 : decode cX2_combine 159 = .ok (.lload 6, 2) := by decide +kernel
theorem dX2_combine_161 : decode cX2_combine 161 = .ok (.lload 10, 2) := by decide +kernel
theorem dX2_combine_163 : decode cX2_combine 163 = .ok (.lmul, 1) := by decide +kernel
theorem dX2_combine_164 : decode cX2_combine 164 = .ok (.invokevirtual 65, 3) := by decide +kernel
theorem dX2_combine_167 : decode cX2_combine 167 = .ok (.ireturn, 1) := by decide +kernel
theorem dX2_combine_168 : decode cX2_combine 168 = .ok (.lload 8, 2) := by decide +kernel
theorem dX2_combine_170 : decode cX2_combine 170 = .ok (.lconst 0, 1) := by decide +kernel
theorem dX2_combine_171 : decode cX2_combine 171 = .ok (.lcmp, 1) := by decide +kernel
theorem dX2_combine_172 : decode cX2_combine 172 = .ok (.ifCond .eq 44, 3) := by decide +kernel
theorem dX2_combine_175 : decode cX2_combine 175 = .ok (.aload_n 0, 1) := by decide +kernel
theorem dX2_combine_176 : decode cX2_combine 176 = .ok (.iload_n 3, 1) := by decide +kernel
theorem dX2_combine_177 : decode cX2_combine 177 = .ok (.lload 8, 2) := by decide +kernel
theorem dX2_combine_179 : decode cX2_combine 179 = .ok (.lconst 0, 1) := by decide +kernel
theorem dX2_combine_180 : decode cX2_combine 180 = .ok (.lcmp, 1) := by decide +kernel
theorem dX2_combine_181 : decode cX2_combine 181 = .ok (.ifCond .ge 12, 3) := by decide +kernel
theorem dX2_combine_184 : decode cX2_combine 184 = .ok (.lload 4, 2) := by decide +kernel
theorem dX2_combine_186 : decode cX2_combine 186 = .ok (.lneg, 1) := by decide +kernel
theorem dX2_combine_187 : decode cX2_combine 187 = .ok (.lload 10, 2) := by decide +kernel
theorem dX2_combine_189 : decode cX2_combine 189 = .ok (.lmul, 1) := by decide +kernel
theorem dX2_combine_190 : decode cX2_combine 190 = .ok (.goto 8, 3) := by decide +kernel
theorem dX2_combine_193 : decode cX2_combine 193 = .ok (.lload 4, 2) := by decide +kernel
theorem dX2_combine_195 : decode cX2_combine 195 = .ok (.lload 10, 2) := by decide +kernel
theorem dX2_combine_197 : decode cX2_combine 197 = .ok (.lmul, 1) := by decide +kernel
theorem dX2_combine_198 : decode cX2_combine 198 = .ok (.lload 6, 2) := by decide +kernel
theorem dX2_combine_200 : decode cX2_combine 200 = .ok (.lload 8, 2) := by decide +kernel
theorem dX2_combine_202 : decode cX2_combine 202 = .ok (.invokestatic 69, 3) := by decide +kernel
theorem dX2_combine_205 : decode cX2_combine 205 = .ok (.lmul, 1) := by decide +kernel
theorem dX2_combine_206 : decode cX2_combine 206 = .ok (.invokevirtual 65, 3) := by decide +kernel
theorem dX2_combine_209 : decode cX2_combine 209 = .ok (.ifCond .eq 7, 3) := by decide +kernel
theorem dX2_combine_212 : decode cX2_combine 212 = .ok (.iconst 1, 1) := by decide +kernel
theorem dX2_combine_213 : decode cX2_combine 213 = .ok (.goto 4, 3) := by decide +kernel
theorem dX2_combine_216 : decode cX2_combine 216 = .ok (.iconst 0, 1) := by decide +kernel
theorem dX2_combine_217 : decode cX2_combine 217 = .ok (.ireturn, 1) := by decide +kernel
theorem dX2_put_0 : decode cX2_put 0 = .ok (.iload_n 1, 1) := by decide +kernel
theorem dX2_put_1 : decode cX2_put 1 = .ok (.ifCond .lt 21, 3) := by decide +kernel
theorem dX2_put_4 : decode cX2_put 4 = .ok (.iload_n 1, 1) := by decide +kernel
theorem dX2_put_5 : decode cX2_put 5 = .ok (.aload_n 0, 1) := by decide +kernel
theorem dX2_put_6 : decode cX2_put 6 = .ok (.getfield 9, 3) := by decide +kernel
theorem dX2_put_9 : decode cX2_put 9 = .ok (.arraylength, 1) := by decide +kernel
theorem dX2_put_10 : decode cX2_put 10 = .ok (.if_icmp .ge 12, 3) := by decide +kernel
theorem dX2_put_13 : decode cX2_put 13 = .ok (.iload_n 1, 1) := by decide +kernel
theorem dX2_put_14 : decode cX2_put 14 = .ok (.aload_n 0, 1) := by decide +kernel
theorem dX2_put_15 : decode cX2_put 15 = .ok (.getfield 15, 3) := by decide +kernel
theorem dX2_put_18 : decode cX2_put 18 = .ok (.arraylength, 1) := by decide +kernel
theorem dX2_put_19 : decode cX2_put 19 = .ok (.if_icmp .lt 5, 3) := by decide +kernel
theorem dX2_put_22 : decode cX2_put 22 = .ok (.iconst 0, 1) := by decide +kernel
theorem dX2_put_23 : decode cX2_put 23 = .ok (.ireturn, 1) := by decide +kernel
theorem dX2_put_24 : decode cX2_put 24 = .ok (.aload_n 0, 1) := by decide +kernel
theorem dX2_put_25 : decode cX2_put 25 = .ok (.getfield 9, 3) := by decide +kernel
theorem dX2_put_28 : decode cX2_put 28 = .ok (.iload_n 1, 1) := by decide +kernel
theorem dX2_put_29 : decode cX2_put 29 = .ok (.lload_n 2, 1) := by decide +kernel
theorem dX2_put_30 : decode cX2_put 30 = .ok (.lastore, 1) := by decide +kernel
theorem dX2_put_31 : decode cX2_put 31 = .ok (.aload_n 0, 1) := by decide +kernel
theorem dX2_put_32 : decode cX2_put 32 = .ok (.getfield 15, 3) := by decide +kernel
theorem dX2_put_35 : decode cX2_put 35 = .ok (.iload_n 1, 1) := by decide +kernel
theorem dX2_put_36 : decode cX2_put 36 = .ok (.lload 4, 2) := by decide +kernel
theorem dX2_put_38 : decode cX2_put 38 = .ok (.lastore, 1) := by decide +kernel
theorem dX2_put_39 : decode cX2_put 39 = .ok (.iconst 1, 1) := by decide +kernel
theorem dX2_put_40 : decode cX2_put 40 = .ok (.ireturn, 1) := by decide +kernel
theorem dX3_init_0 : decode cX3_init 0 = .ok (.aload_n 0, 1) := by decide +kernel
theorem dX3_init_1 : decode cX3_init 1 = .ok (.invokespecial 3, 3) := by decide +kernel
theorem dX3_init_4 : decode cX3_init 4 = .ok (.aload_n 0, 1) := by decide +kernel
theorem dX3_init_5 : decode cX3_init 5 = .ok (.bipush 60, 2) := by decide +kernel
theorem dX3_init_7 : decode cX3_init 7 = .ok (.newarray .int, 2) := by decide +kernel
theorem dX3_init_9 : decode cX3_init 9 = .ok (.putfield 9, 3) := by decide +kernel
theorem dX3_init_12 : decode cX3_init 12 = .ok (.aload_n 0, 1) := by decide +kernel
theorem dX3_init_13 : decode cX3_init 13 = .ok (.bipush 6, 2) := by decide +kernel
theorem dX3_init_15 : decode cX3_init 15 = .ok (.newarray .int, 2) := by decide +kernel
theorem dX3_init_17 : decode cX3_init 17 = .ok (.putfield 15, 3) := by decide +kernel
theorem dX3_init_20 : decode cX3_init 20 = .ok (.aload_n 0, 1) := by decide +kernel
theorem dX3_init_21 : decode cX3_init 21 = .ok (.bipush 6, 2) := by decide +kernel
theorem dX3_init_23 : decode cX3_init 23 = .ok (.newarray .int, 2) := by decide +kernel
theorem dX3_init_25 : decode cX3_init 25 = .ok (.putfield 18, 3) := by decide +kernel
theorem dX3_init_28 : decode cX3_init 28 = .ok (.aload_n 0, 1) := by decide +kernel
theorem dX3_init_29 : decode cX3_init 29 = .ok (.new 21, 3) := by decide +kernel
theorem dX3_init_32 : decode cX3_init 32 = .ok (.dup, 1) := by decide +kernel
theorem dX3_init_33 : decode cX3_init 33 = .ok (.bipush 11, 2) := by decide +kernel
theorem dX3_init_35 : decode cX3_init 35 = .ok (.invokespecial 23, 3) := by decide +kernel
theorem dX3_init_38 : decode cX3_init 38 = .ok (.putfield 26, 3) := by decide +kernel
theorem dX3_init_41 : decode cX3_init 41 = .ok (.aload_n 0, 1) := by decide +kernel
theorem dX3_init_42 : decode cX3_init 42 = .ok (.bipush 30, 2) := by decide +kernel
theorem dX3_init_44 : decode cX3_init 44 = .ok (.putfield 30, 3) := by decide +kernel
theorem dX3_init_47 : decode cX3_init 47 = .ok (.iconst 0, 1) := by decide +kernel
theorem dX3_init_48 : decode cX3_init 48 = .ok (.istore_n 1, 1) := by decide +kernel
theorem dX3_init_49 : decode cX3_init 49 = .ok (.iload_n 1, 1) := by decide +kernel
theorem dX3_init_50 : decode cX3_init 50 = .ok (.ldc 34, 2) := by decide +kernel
theorem dX3_init_52 : decode cX3_init 52 = .ok (.invokevirtual 36, 3) := by decide +kernel
theorem dX3_init_55 : decode cX3_init 55 = .ok (.if_icmp .ge 23, 3) := by decide +kernel
theorem dX3_init_58 : decode cX3_init 58 = .ok (.aload_n 0, 1) := by decide +kernel
theorem dX3_init_59 : decode cX3_init 59 = .ok (.getfield 26, 3) := by decide +kernel
theorem dX3_init_62 : decode cX3_init 62 = .ok (.ldc 34, 2) := by decide +kernel
theorem dX3_init_64 : decode cX3_init 64 = .ok (.iload_n 1, 1) := by decide +kernel
theorem dX3_init_65 : decode cX3_init 65 = .ok (.invokevirtual 42, 3) := by decide +kernel
theorem dX3_init_68 : decode cX3_init 68 = .ok (.invokevirtual 46, 3) := by decide +kernel
theorem dX3_init_71 : decode cX3_init 71 = .ok (.pop, 1) := by decide +kernel
theorem dX3_init_72 : decode cX3_init 72 = .ok (.iinc 1 1, 3) := by decide +kernel
theorem dX3_init_75 : decode cX3_init 75 = .ok (.goto (-26), 3) := by decide +kernel
theorem dX3_init_78 : decode cX3_init 78 = .ok (.return_, 1) := by decide +kernel
theorem dX3_become_0 : decode cX3_become 0 = .ok (.aload_n 1, 1) := by decide +kernel
theorem dX3_become_1 : decode cX3_become 1 = .ok (.getfield 9, 3) := by decide +kernel
theorem dX3_become_4 : decode cX3_become 4 = .ok (.aload_n 0, 1) := by decide +kernel
theorem dX3_become_5 : decode cX3_become 5 = .ok (.getfield 9, 3) := by decide +kernel
theorem dX3_become_8 : decode cX3_become 8 = .ok (.invokestatic 50, 3) := by decide +kernel
theorem dX3_become_11 : decode cX3_become 11 = .ok (.aload_n 1, 1) := by decide +kernel
theorem dX3_become_12 : decode cX3_become 12 = .ok (.getfield 15, 3) := by decide +kernel
theorem dX3_become_15 : decode cX3_become 15 = .ok (.aload_n 0, 1) := by decide +kernel
theorem dX3_become_16 : decode cX3_become 16 = .ok (.getfield 15, 3) := by decide +kernel
theorem dX3_become_19 : decode cX3_become 19 = .ok (.invokestatic 50, 3) := by decide +kernel
theorem dX3_become_22 : decode cX3_become 22 = .ok (.aload_n 1, 1) := by decide +kernel
theorem dX3_become_23 : decode cX3_become 23 = .ok (.getfield 18, 3) := by decide +kernel
theorem dX3_become_26 : decode cX3_become 26 = .ok (.aload_n 0, 1) := by decide +kernel
theorem dX3_become_27 : decode cX3_become 27 = .ok (.getfield 18, 3) := by decide +kernel
theorem dX3_become_30 : decode cX3_become 30 = .ok (.invokestatic 50, 3) := by decide +kernel
theorem dX3_become_33 : decode cX3_become 33 = .ok (.aload_n 0, 1) := by decide +kernel
theorem dX3_become_34 : decode cX3_become 34 = .ok (.getfield 26, 3) := by decide +kernel
theorem dX3_become_37 : decode cX3_become 37 = .ok (.aload_n 1, 1) := by decide +kernel
theorem dX3_become_38 : decode cX3_become 38 = .ok (.getfield 26, 3) := by decide +kernel
theorem dX3_become_41 : decode cX3_become 41 = .ok (.invokevirtual 54, 3) := by decide +kernel
theorem dX3_become_44 : decode cX3_become 44 = .ok (.aload_n 0, 1) := by decide +kernel
theorem dX3_become_45 : decode cX3_become 45 = .ok (.aload_n 1, 1) := by decide +kernel
theorem dX3_become_46 : decode cX3_become 46 = .ok (.getfield 58, 3) := by decide +kernel
theorem dX3_become_49 : decode cX3_become 49 = .ok (.putfield 58, 3) := by decide +kernel
theorem dX3_become_52 : decode cX3_become 52 = .ok (.aload_n 0, 1) := by decide +kernel
theorem dX3_become_53 : decode cX3_become 53 = .ok (.aload_n 1, 1) := by decide +kernel
theorem dX3_become_54 : decode cX3_become 54 = .ok (.getfield 30, 3) := by decide +kernel
theorem dX3_become_57 : decode cX3_become 57 = .ok (.putfield 30, 3) := by decide +kernel
theorem dX3_become_60 : decode cX3_become 60 = .ok (.return_, 1) := by decide +kernel
theorem dX3_copy_0 : decode cX3_copy 0 = .ok (.aload_n 0, 1) := by decide +kernel
theorem dX3_copy_1 : decode cX3_copy 1 = .ok (.iconst 0, 1) := by decide +kernel
theorem dX3_copy_2 : decode cX3_copy 2 = .ok (.aload_n 1, 1) := by decide +kernel
theorem dX3_copy_3 : decode cX3_copy 3 = .ok (.iconst 0, 1) := by decide +kernel
theorem dX3_copy_4 : decode cX3_copy 4 = .ok (.aload_n 0, 1) := by decide +kernel
theorem dX3_copy_5 : decode cX3_copy 5 = .ok (.arraylength, 1) := by decide +kernel
theorem dX3_copy_6 : decode cX3_copy 6 = .ok (.aload_n 1, 1) := by decide +kernel
theorem dX3_copy_7 : decode cX3_copy 7 = .ok (.arraylength, 1) := by decide +kernel
theorem dX3_copy_8 : decode cX3_copy 8 = .ok (.invokestatic 61, 3) := by decide +kernel
theorem dX3_copy_11 : decode cX3_copy 11 = .ok (.invokestatic 67, 3) := by decide +kernel
theorem dX3_copy_14 : decode cX3_copy 14 = .ok (.return_, 1) := by decide +kernel
theorem dX3_sizeOf_0 : decode cX3_sizeOf 0 = .ok (.iload_n 1, 1) := by decide +kernel
theorem dX3_sizeOf_1 : decode cX3_sizeOf 1 = .ok (.ifCond .lt 21, 3) := by decide +kernel
theorem dX3_sizeOf_4 : decode cX3_sizeOf 4 = .ok (.iload_n 1, 1) := by decide +kernel
theorem dX3_sizeOf_5 : decode cX3_sizeOf 5 = .ok (.aload_n 0, 1) := by decide +kernel
theorem dX3_sizeOf_6 : decode cX3_sizeOf 6 = .ok (.getfield 15, 3) := by decide +kernel
theorem dX3_sizeOf_9 : decode cX3_sizeOf 9 = .ok (.arraylength, 1) := by decide +kernel
theorem dX3_sizeOf_10 : decode cX3_sizeOf 10 = .ok (.if_icmp .ge 12, 3) := by decide +kernel
theorem dX3_sizeOf_13 : decode cX3_sizeOf 13 = .ok (.aload_n 0, 1) := by decide +kernel
theorem dX3_sizeOf_14 : decode cX3_sizeOf 14 = .ok (.getfield 15, 3) := by decide +kernel
theorem dX3_sizeOf_17 : decode cX3_sizeOf 17 = .ok (.iload_n 1, 1) := by decide +kernel
theorem dX3_sizeOf_18 : decode cX3_sizeOf 18 = .ok (.iaload, 1) := by decide +kernel
theorem dX3_sizeOf_19 : decode cX3_sizeOf 19 = .ok (.goto 4, 3) := by decide +kernel
theorem dX3_sizeOf_22 : decode cX3_sizeOf 22 = .ok (.iconst 0, 1) := by decide +kernel
theorem dX3_sizeOf_23 : decode cX3_sizeOf 23 = .ok (.ireturn, 1) := by decide +kernel
theorem dX3_signOf_0 : decode cX3_signOf 0 = .ok (.iload_n 2, 1) := by decide +kernel
theorem dX3_signOf_1 : decode cX3_signOf 1 = .ok (.ifCond .lt 12, 3) := by decide +kernel
theorem dX3_signOf_4 : decode cX3_signOf 4 = .ok (.iload_n 2, 1) := by decide +kernel
theorem dX3_signOf_5 : decode cX3_signOf 5 = .ok (.aload_n 0, 1) := by decide +kernel
theorem dX3_signOf_6 : decode cX3_signOf 6 = .ok (.iload_n 1, 1) := by decide +kernel
theorem dX3_signOf_7 : decode cX3_signOf 7 = .ok (.invokevirtual 73, 3) := by decide +kernel
theorem dX3_signOf_10 : decode cX3_signOf 10 = .ok (.if_icmp .lt 6, 3) := by decide +kernel
theorem dX3_signOf_13 : decode cX3_signOf 13 = .ok (.bipush (-6), 2) := by decide +kernel
theorem dX3_signOf_15 : decode cX3_signOf 15 = .ok (.ireturn, 1) := by decide +kernel
theorem dX3_signOf_16 : decode cX3_signOf 16 = .ok (.iload_n 1, 1) := by decide +kernel
theorem dX3_signOf_17 : decode cX3_signOf 17 = .ok (.bipush 10, 2) := by decide +kernel
theorem dX3_signOf_19 : decode cX3_signOf 19 = .ok (.imul, 1) := by decide +kernel
theorem dX3_signOf_20 : decode cX3_signOf 20 = .ok (.iload_n 2, 1) := by decide +kernel
theorem dX3_signOf_21 : decode cX3_signOf 21 = .ok (.iadd, 1) := by decide +kernel
theorem dX3_signOf_22 : decode cX3_signOf 22 = .ok (.istore_n 3, 1) := by decide +kernel
theorem dX3_signOf_23 : decode cX3_signOf 23 = .ok (.iload_n 3, 1) := by decide +kernel
theorem dX3_signOf_24 : decode cX3_signOf 24 = .ok (.ifCond .lt 21, 3) := by decide +kernel
theorem dX3_signOf_27 : decode cX3_signOf 27 = .ok (.iload_n 3, 1) := by decide +kernel
theorem dX3_signOf_28 : decode cX3_signOf 28 = .ok (.aload_n 0, 1) := by decide +kernel
theorem dX3_signOf_29 : decode cX3_signOf 29 = .ok (.getfield 9, 3) := by decide +kernel
theorem dX3_signOf_32 : decode cX3_signOf 32 = .ok (.arraylength, 1) := by decide +kernel
theorem dX3_signOf_33 : decode cX3_signOf 33 = .ok (.if_icmp .ge 12, 3) := by decide +kernel
theorem dX3_signOf_36 : decode cX3_signOf 36 = .ok (.aload_n 0, 1) := by decide +kernel
theorem dX3_signOf_37 : decode cX3_signOf 37 = .ok (.getfield 9, 3) := by decide +kernel
theorem dX3_signOf_40 : decode cX3_signOf 40 = .ok (.iload_n 3, 1) := by decide +kernel
theorem dX3_signOf_41 : decode cX3_signOf 41 = .ok (.iaload, 1) := by decide +kernel
theorem dX3_signOf_42 : decode cX3_signOf 42 = .ok (.goto 5, 3) := by decide +kernel
theorem dX3_signOf_45 : decode cX3_signOf 45 = .ok (.bipush (-6), 2) := by decide +kernel
theorem dX3_signOf_47 : decode cX3_signOf 47 = .ok (.ireturn, 1) := by decide +kernel
theorem dX3_fillSheet_0 : decode cX3_fillSheet 0 = .ok (.iload_n 1, 1) := by decide +kernel
theorem dX3_fillSheet_1 : decode cX3_fillSheet 1 = .ok (.ifCond .lt 21, 3) := by decide +kernel
theorem dX3_fillSheet_4 : decode cX3_fillSheet 4 = .ok (.iload_n 1, 1) := by decide +kernel
theorem dX3_fillSheet_5 : decode cX3_fillSheet 5 = .ok (.aload_n 0, 1) := by decide +kernel
theorem dX3_fillSheet_6 : decode cX3_fillSheet 6 = .ok (.getfield 15, 3) := by decide +kernel
theorem dX3_fillSheet_9 : decode cX3_fillSheet 9 = .ok (.arraylength, 1) := by decide +kernel
theorem dX3_fillSheet_10 : decode cX3_fillSheet 10 = .ok (.if_icmp .ge 12, 3) := by decide +kernel
theorem dX3_fillSheet_13 : decode cX3_fillSheet 13 = .ok (.aload_n 2, 1) := by decide +kernel
theorem dX3_fillSheet_14 : decode cX3_fillSheet 14 = .ok (.getfield 77, 3) := by decide +kernel
theorem dX3_fillSheet_17 : decode cX3_fillSheet 17 = .ok (.bipush 10, 2) := by decide +kernel
theorem dX3_fillSheet_19 : decode cX3_fillSheet 19 = .ok (.if_icmp .le 4, 3) := by decide +kernel
theorem dX3_fillSheet_22 : decode cX3_fillSheet 22 = .ok (.return_, 1) := by decide +kernel
theorem dX3_fillSheet_23 : decode cX3_fillSheet 23 = .ok (.iconst 0, 1) := by decide +kernel
theorem dX3_fillSheet_24 : decode cX3_fillSheet 24 = .ok (.istore_n 3, 1) := by decide +kernel
theorem dX3_fillSheet_25 : decode cX3_fillSheet 25 = .ok (.iload_n 3, 1) := by decide +kernel
theorem dX3_fillSheet_26 : decode cX3_fillSheet 26 = .ok (.aload_n 2, 1) := by decide +kernel
theorem dX3_fillSheet_27 : decode cX3_fillSheet 27 = .ok (.getfield 77, 3) := by decide +kernel
theorem dX3_fillSheet_30 : decode cX3_fillSheet 30 = .ok (.if_icmp .ge 39, 3) := by decide +kernel
theorem dX3_fillSheet_33 : decode cX3_fillSheet 33 = .ok (.iload_n 1, 1) := by decide +kernel
theorem dX3_fillSheet_34 : decode cX3_fillSheet 34 = .ok (.bipush 10, 2) := by decide +kernel
theorem dX3_fillSheet_36 : decode cX3_fillSheet 36 = .ok (.imul, 1) := by decide +kernel
theorem dX3_fillSheet_37 : decode cX3_fillSheet 37 = .ok (.iload_n 3, 1) := by decide +kernel
theorem dX3_fillSheet_38 : decode cX3_fillSheet 38 = .ok (.iadd, 1) := by decide +kernel
theorem dX3_fillSheet_39 : decode cX3_fillSheet 39 = .ok (.istore 4, 2) := by decide +kernel
theorem dX3_fillSheet_41 : decode cX3_fillSheet 41 = .ok (.iload 4, 2) := by decide +kernel
theorem dX3_fillSheet_43 : decode cX3_fillSheet 43 = .ok (.aload_n 0, 1) := by decide +kernel
theorem dX3_fillSheet_44 : decode cX3_fillSheet 44 = .ok (.getfield 9, 3) := by decide +kernel
theorem dX3_fillSheet_47 : decode cX3_fillSheet 47 = .ok (.arraylength, 1) := by decide +kernel
theorem dX3_fillSheet_48 : decode cX3_fillSheet 48 = .ok (.if_icmp .ge 15, 3) := by decide +kernel
theorem dX3_fillSheet_51 : decode cX3_fillSheet 51 = .ok (.aload_n 0, 1) := by decide +kernel
theorem dX3_fillSheet_52 : decode cX3_fillSheet 52 = .ok (.getfield 9, 3) := by decide +kernel
theorem dX3_fillSheet_55 : decode cX3_fillSheet 55 = .ok (.iload 4, 2) := by decide +kernel
theorem dX3_fillSheet_57 : decode cX3_fillSheet 57 = .ok (.aload_n 2, 1) := by decide +kernel
theorem dX3_fillSheet_58 : decode cX3_fillSheet 58 = .ok (.iload_n 3, 1) := by decide +kernel
theorem dX3_fillSheet_59 : decode cX3_fillSheet 59 = .ok (.invokevirtual 80, 3) := by decide +kernel
theorem dX3_fillSheet_62 : decode cX3_fillSheet 62 = .ok (.iastore, 1) := by decide +kernel
theorem dX3_fillSheet_63 : decode cX3_fillSheet 63 = .ok (.iinc 3 1, 3) := by decide +kernel
theorem dX3_fillSheet_66 : decode cX3_fillSheet 66 = .ok (.goto (-41), 3) := by decide +kernel
theorem dX3_fillSheet_69 : decode cX3_fillSheet 69 = .ok (.aload_n 0, 1) := by decide +kernel
theorem dX3_fillSheet_70 : decode cX3_fillSheet 70 = .ok (.getfield 15, 3) := by decide +kernel
theorem dX3_fillSheet_73 : decode cX3_fillSheet 73 = .ok (.iload_n 1, 1) := by decide +kernel
theorem dX3_fillSheet_74 : decode cX3_fillSheet 74 = .ok (.aload_n 2, 1) := by decide +kernel
theorem dX3_fillSheet_75 : decode cX3_fillSheet 75 = .ok (.getfield 77, 3) := by decide +kernel
theorem dX3_fillSheet_78 : decode cX3_fillSheet 78 = .ok (.iastore, 1) := by decide +kernel
theorem dX3_fillSheet_79 : decode cX3_fillSheet 79 = .ok (.return_, 1) := by decide +kernel
theorem dX3_gathererOf_0 : decode cX3_gathererOf 0 = .ok (.iload_n 1, 1) := by decide +kernel
theorem dX3_gathererOf_1 : decode cX3_gathererOf 1 = .ok (.ifCond .lt 21, 3) := by decide +kernel
theorem dX3_gathererOf_4 : decode cX3_gathererOf 4 = .ok (.iload_n 1, 1) := by decide +kernel
theorem dX3_gathererOf_5 : decode cX3_gathererOf 5 = .ok (.aload_n 0, 1) := by decide +kernel
theorem dX3_gathererOf_6 : decode cX3_gathererOf 6 = .ok (.getfield 18, 3) := by decide +kernel
theorem dX3_gathererOf_9 : decode cX3_gathererOf 9 = .ok (.arraylength, 1) := by decide +kernel
theorem dX3_gathererOf_10 : decode cX3_gathererOf 10 = .ok (.if_icmp .ge 12, 3) := by decide +kernel
theorem dX3_gathererOf_13 : decode cX3_gathererOf 13 = .ok (.aload_n 0, 1) := by decide +kernel
theorem dX3_gathererOf_14 : decode cX3_gathererOf 14 = .ok (.getfield 18, 3) := by decide +kernel
theorem dX3_gathererOf_17 : decode cX3_gathererOf 17 = .ok (.iload_n 1, 1) := by decide +kernel
theorem dX3_gathererOf_18 : decode cX3_gathererOf 18 = .ok (.iaload, 1) := by decide +kernel
theorem dX3_gathererOf_19 : decode cX3_gathererOf 19 = .ok (.goto 5, 3) := by decide +kernel
theorem dX3_gathererOf_22 : decode cX3_gathererOf 22 = .ok (.bipush (-6), 2) := by decide +kernel
theorem dX3_gathererOf_24 : decode cX3_gathererOf 24 = .ok (.ireturn, 1) := by decide +kernel
theorem dX3_giveTo_0 : decode cX3_giveTo 0 = .ok (.aload_n 0, 1) := by decide +kernel
theorem dX3_giveTo_1 : decode cX3_giveTo 1 = .ok (.iload_n 1, 1) := by decide +kernel
theorem dX3_giveTo_2 : decode cX3_giveTo 2 = .ok (.invokevirtual 83, 3) := by decide +kernel
theorem dX3_giveTo_5 : decode cX3_giveTo 5 = .ok (.istore_n 3, 1) := by decide +kernel
theorem dX3_giveTo_6 : decode cX3_giveTo 6 = .ok (.iload_n 1, 1) := by decide +kernel
theorem dX3_giveTo_7 : decode cX3_giveTo 7 = .ok (.ifCond .lt 19, 3) := by decide +kernel
theorem dX3_giveTo_10 : decode cX3_giveTo 10 = .ok (.iload_n 1, 1) := by decide +kernel
theorem dX3_giveTo_11 : decode cX3_giveTo 11 = .ok (.aload_n 0, 1) := by decide +kernel
theorem dX3_giveTo_12 : decode cX3_giveTo 12 = .ok (.getfield 18, 3) := by decide +kernel
theorem dX3_giveTo_15 : decode cX3_giveTo 15 = .ok (.arraylength, 1) := by decide +kernel
theorem dX3_giveTo_16 : decode cX3_giveTo 16 = .ok (.if_icmp .ge 10, 3) := by decide +kernel
theorem dX3_giveTo_19 : decode cX3_giveTo 19 = .ok (.aload_n 0, 1) := by decide +kernel
theorem dX3_giveTo_20 : decode cX3_giveTo 20 = .ok (.getfield 18, 3) := by decide +kernel
theorem dX3_giveTo_23 : decode cX3_giveTo 23 = .ok (.iload_n 1, 1) := by decide +kernel
theorem dX3_giveTo_24 : decode cX3_giveTo 24 = .ok (.iload_n 2, 1) := by decide +kernel
theorem dX3_giveTo_25 : decode cX3_giveTo 25 = .ok (.iastore, 1) := by decide +kernel
theorem dX3_giveTo_26 : decode cX3_giveTo 26 = .ok (.iload_n 3, 1) := by decide +kernel
theorem dX3_giveTo_27 : decode cX3_giveTo 27 = .ok (.ireturn, 1) := by decide +kernel
theorem dX3_isStruck_0 : decode cX3_isStruck 0 = .ok (.aload_n 0, 1) := by decide +kernel
theorem dX3_isStruck_1 : decode cX3_isStruck 1 = .ok (.getfield 58, 3) := by decide +kernel
theorem dX3_isStruck_4 : decode cX3_isStruck 4 = .ok (.iload_n 1, 1) := by decide +kernel
theorem dX3_isStruck_5 : decode cX3_isStruck 5 = .ok (.ishr, 1) := by decide +kernel
theorem dX3_isStruck_6 : decode cX3_isStruck 6 = .ok (.iconst 1, 1) := by decide +kernel
theorem dX3_isStruck_7 : decode cX3_isStruck 7 = .ok (.iand, 1) := by decide +kernel
theorem dX3_isStruck_8 : decode cX3_isStruck 8 = .ok (.ifCond .eq 7, 3) := by decide +kernel
theorem dX3_isStruck_11 : decode cX3_isStruck 11 = .ok (.iconst 1, 1) := by decide +kernel
theorem dX3_isStruck_12 : decode cX3_isStruck 12 = .ok (.goto 4, 3) := by decide +kernel
theorem dX3_isStruck_15 : decode cX3_isStruck 15 = .ok (.iconst 0, 1) := by decide +kernel
theorem dX3_isStruck_16 : decode cX3_isStruck 16 = .ok (.ireturn, 1) := by decide +kernel
theorem dX3_strikeOut_0 : decode cX3_strikeOut 0 = .ok (.aload_n 0, 1) := by decide +kernel
theorem dX3_strikeOut_1 : decode cX3_strikeOut 1 = .ok (.getfield 58, 3) := by decide +kernel
theorem dX3_strikeOut_4 : decode cX3_strikeOut 4 = .ok (.iload_n 1, 1) := by decide +kernel
theorem dX3_strikeOut_5 : decode cX3_strikeOut 5 = .ok (.ishr, 1) := by decide +kernel
theorem dX3_strikeOut_6 : decode cX3_strikeOut 6 = .ok (.iconst 1, 1) := by decide +kernel
theorem dX3_strikeOut_7 : decode cX3_strikeOut 7 = .ok (.iand, 1) := by decide +kernel
theorem dX3_strikeOut_8 : decode cX3_strikeOut 8 = .ok (.istore_n 3, 1) := by decide +kernel
theorem dX3_strikeOut_9 : decode cX3_strikeOut 9 = .ok (.aload_n 0, 1) := by decide +kernel
theorem dX3_strikeOut_10 : decode cX3_strikeOut 10 = .ok (.aload_n 0, 1) := by decide +kernel
theorem dX3_strikeOut_11 : decode cX3_strikeOut 11 = .ok (.getfield 58, 3) := by decide +kernel
theorem dX3_strikeOut_14 : decode cX3_strikeOut 14 = .ok (.iconst 1, 1) := by decide +kernel
theorem dX3_strikeOut_15 : decode cX3_strikeOut 15 = .ok (.iload_n 1, 1) := by decide +kernel
theorem dX3_strikeOut_16 : decode cX3_strikeOut 16 = .ok (.ishl, 1) := by decide +kernel
theorem dX3_strikeOut_17 : decode cX3_strikeOut 17 = .ok (.iconst (-1), 1) := by decide +kernel
theorem dX3_strikeOut_18 : decode cX3_strikeOut 18 = .ok (.ixor, 1) := by decide +kernel
theorem dX3_strikeOut_19 : decode cX3_strikeOut 19 = .ok (.iand, 1) := by decide +kernel
theorem dX3_strikeOut_20 : decode cX3_strikeOut 20 = .ok (.iload_n 2, 1) := by decide +kernel
theorem dX3_strikeOut_21 : decode cX3_strikeOut 21 = .ok (.iload_n 1, 1) := by decide +kernel
theorem dX3_strikeOut_22 : decode cX3_strikeOut 22 = .ok (.ishl, 1) := by decide +kernel
theorem dX3_strikeOut_23 : decode cX3_strikeOut 23 = .ok (.ior, 1) := by decide +kernel
theorem dX3_strikeOut_24 : decode cX3_strikeOut 24 = .ok (.putfield 58, 3) := by decide +kernel
theorem dX3_strikeOut_27 : decode cX3_strikeOut 27 = .ok (.iload_n 3, 1) := by decide +kernel
theorem dX3_strikeOut_28 : decode cX3_strikeOut 28 = .ok (.ireturn, 1) := by decide +kernel
theorem dX4_init_0 : decode cX4_init 0 = .ok (.aload_n 0, 1) := by decide +kernel
theorem dX4_init_1 : decode cX4_init 1 = .ok (.invokespecial 3, 3) := by decide +kernel
theorem dX4_init_4 : decode cX4_init 4 = .ok (.aload_n 0, 1) := by decide +kernel
theorem dX4_init_5 : decode cX4_init 5 = .ok (.bipush 26, 2) := by decide +kernel
theorem dX4_init_7 : decode cX4_init 7 = .ok (.newarray .int, 2) := by decide +kernel
theorem dX4_init_9 : decode cX4_init 9 = .ok (.putfield 9, 3) := by decide +kernel
theorem dX4_init_12 : decode cX4_init 12 = .ok (.return_, 1) := by decide +kernel
theorem dX4_clear_0 : decode cX4_clear 0 = .ok (.iconst 0, 1) := by decide +kernel
theorem dX4_clear_1 : decode cX4_clear 1 = .ok (.istore_n 1, 1) := by decide +kernel
theorem dX4_clear_2 : decode cX4_clear 2 = .ok (.iload_n 1, 1) := by decide +kernel
theorem dX4_clear_3 : decode cX4_clear 3 = .ok (.aload_n 0, 1) := by decide +kernel
theorem dX4_clear_4 : decode cX4_clear 4 = .ok (.getfield 9, 3) := by decide +kernel
theorem dX4_clear_7 : decode cX4_clear 7 = .ok (.arraylength, 1) := by decide +kernel
theorem dX4_clear_8 : decode cX4_clear 8 = .ok (.if_icmp .ge 16, 3) := by decide +kernel
theorem dX4_clear_11 : decode cX4_clear 11 = .ok (.aload_n 0, 1) := by decide +kernel
theorem dX4_clear_12 : decode cX4_clear 12 = .ok (.getfield 9, 3) := by decide +kernel
theorem dX4_clear_15 : decode cX4_clear 15 = .ok (.iload_n 1, 1) := by decide +kernel
theorem dX4_clear_16 : decode cX4_clear 16 = .ok (.iconst 0, 1) := by decide +kernel
theorem dX4_clear_17 : decode cX4_clear 17 = .ok (.iastore, 1) := by decide +kernel
theorem dX4_clear_18 : decode cX4_clear 18 = .ok (.iinc 1 1, 3) := by decide +kernel
theorem dX4_clear_21 : decode cX4_clear 21 = .ok (.goto (-19), 3) := by decide +kernel
theorem dX4_clear_24 : decode cX4_clear 24 = .ok (.aload_n 0, 1) := by decide +kernel
theorem dX4_clear_25 : decode cX4_clear 25 = .ok (.iconst 0, 1) := by decide +kernel
theorem dX4_clear_26 : decode cX4_clear 26 = .ok (.putfield 15, 3) := by decide +kernel
theorem dX4_clear_29 : decode cX4_clear 29 = .ok (.aload_n 0, 1) := by decide +kernel
theorem dX4_clear_30 : decode cX4_clear 30 = .ok (.iconst 0, 1) := by decide +kernel
theorem dX4_clear_31 : decode cX4_clear 31 = .ok (.putfield 19, 3) := by decide +kernel
theorem dX4_clear_34 : decode cX4_clear 34 = .ok (.aload_n 0, 1) := by decide +kernel
theorem dX4_clear_35 : decode cX4_clear 35 = .ok (.iconst 0, 1) := by decide +kernel
theorem dX4_clear_36 : decode cX4_clear 36 = .ok (.putfield 22, 3) := by decide +kernel
theorem dX4_clear_39 : decode cX4_clear 39 = .ok (.aload_n 0, 1) := by decide +kernel
theorem dX4_clear_40 : decode cX4_clear 40 = .ok (.iconst 0, 1) := by decide +kernel
theorem dX4_clear_41 : decode cX4_clear 41 = .ok (.putfield 25, 3) := by decide +kernel
theorem dX4_clear_44 : decode cX4_clear 44 = .ok (.aload_n 0, 1) := by decide +kernel
theorem dX4_clear_45 : decode cX4_clear 45 = .ok (.iconst 0, 1) := by decide +kernel
theorem dX4_clear_46 : decode cX4_clear 46 = .ok (.putfield 28, 3) := by decide +kernel
theorem dX4_clear_49 : decode cX4_clear 49 = .ok (.aload_n 0, 1) := by decide +kernel
theorem dX4_clear_50 : decode cX4_clear 50 = .ok (.iconst 0, 1) := by decide +kernel
theorem dX4_clear_51 : decode cX4_clear 51 = .ok (.putfield 31, 3) := by decide +kernel
theorem dX4_clear_54 : decode cX4_clear 54 = .ok (.return_, 1) := by decide +kernel
theorem dX4_readSheets_0 : decode cX4_readSheets 0 = .ok (.aload_n 0, 1) := by decide +kernel
theorem dX4_readSheets_1 : decode cX4_readSheets 1 = .ok (.invokevirtual 35, 3) := by decide +kernel
theorem dX4_readSheets_4 : decode cX4_readSheets 4 = .ok (.iconst 0, 1) := by decide +kernel
theorem dX4_readSheets_5 : decode cX4_readSheets 5 = .ok (.istore_n 3, 1) := by decide +kernel
theorem dX4_readSheets_6 : decode cX4_readSheets 6 = .ok (.iload_n 3, 1) := by decide +kernel
theorem dX4_readSheets_7 : decode cX4_readSheets 7 = .ok (.bipush 6, 2) := by decide +kernel
theorem dX4_readSheets_9 : decode cX4_readSheets 9 = .ok (.if_icmp .ge 55, 3) := by decide +kernel
theorem dX4_readSheets_12 : decode cX4_readSheets 12 = .ok (.iload_n 2, 1) := by decide +kernel
theorem dX4_readSheets_13 : decode cX4_readSheets 13 = .ok (.iload_n 3, 1) := by decide +kernel
theorem dX4_readSheets_14 : decode cX4_readSheets 14 = .ok (.ishr, 1) := by decide +kernel
theorem dX4_readSheets_15 : decode cX4_readSheets 15 = .ok (.iconst 1, 1) := by decide +kernel
theorem dX4_readSheets_16 : decode cX4_readSheets 16 = .ok (.iand, 1) := by decide +kernel
theorem dX4_readSheets_17 : decode cX4_readSheets 17 = .ok (.ifCond .eq 11, 3) := by decide +kernel
theorem dX4_readSheets_20 : decode cX4_readSheets 20 = .ok (.aload_n 1, 1) := by decide +kernel
theorem dX4_readSheets_21 : decode cX4_readSheets 21 = .ok (.iload_n 3, 1) := by decide +kernel
theorem dX4_readSheets_22 : decode cX4_readSheets 22 = .ok (.invokevirtual 38, 3) := by decide +kernel
theorem dX4_readSheets_25 : decode cX4_readSheets 25 = .ok (.goto 4, 3) := by decide +kernel
theorem dX4_readSheets_28 : decode cX4_readSheets 28 = .ok (.iconst 0, 1) := by decide +kernel
theorem dX4_readSheets_29 : decode cX4_readSheets 29 = .ok (.istore 4, 2) := by decide +kernel
theorem dX4_readSheets_31 : decode cX4_readSheets 31 = .ok (.iconst 0, 1) := by decide +kernel
theorem dX4_readSheets_32 : decode cX4_readSheets 32 = .ok (.istore 5, 2) := by decide +kernel
theorem dX4_readSheets_34 : decode cX4_readSheets 34 = .ok (.iload 5, 2) := by decide +kernel
theorem dX4_readSheets_36 : decode cX4_readSheets 36 = .ok (.iload 4, 2) := by decide +kernel
theorem dX4_readSheets_38 : decode cX4_readSheets 38 = .ok (.if_icmp .ge 20, 3) := by decide +kernel
theorem dX4_readSheets_41 : decode cX4_readSheets 41 = .ok (.aload_n 0, 1) := by decide +kernel
theorem dX4_readSheets_42 : decode cX4_readSheets 42 = .ok (.aload_n 1, 1) := by decide +kernel
theorem dX4_readSheets_43 : decode cX4_readSheets 43 = .ok (.iload_n 3, 1) := by decide +kernel
theorem dX4_readSheets_44 : decode cX4_readSheets 44 = .ok (.iload 5, 2) := by decide +kernel
theorem dX4_readSheets_46 : decode cX4_readSheets 46 = .ok (.invokevirtual 44, 3) := by decide +kernel
theorem dX4_readSheets_49 : decode cX4_readSheets 49 = .ok (.invokevirtual 48, 3) := by decide +kernel
theorem dX4_readSheets_52 : decode cX4_readSheets 52 = .ok (.iinc 5 1, 3) := by decide +kernel
theorem dX4_readSheets_55 : decode cX4_readSheets 55 = .ok (.goto (-21), 3) := by decide +kernel
theorem dX4_readSheets_58 : decode cX4_readSheets 58 = .ok (.iinc 3 1, 3) := by decide +kernel
theorem dX4_readSheets_61 : decode cX4_readSheets 61 = .ok (.goto (-55), 3) := by decide +kernel
theorem dX4_readSheets_64 : decode cX4_readSheets 64 = .ok (.return_, 1) := by decide +kernel
theorem dX4_add_0 : decode cX4_add 0 = .ok (.aload_n 0, 1) := by decide +kernel
theorem dX4_add_1 : decode cX4_add 1 = .ok (.dup, 1) := by decide +kernel
theorem dX4_add_2 : decode cX4_add 2 = .ok (.getfield 15, 3) := by decide +kernel
theorem dX4_add_5 : decode cX4_add 5 = .ok (.iconst 1, 1) := by decide +kernel
theorem dX4_add_6 : decode cX4_add 6 = .ok (.iadd, 1) := by decide +kernel
theorem dX4_add_7 : decode cX4_add 7 = .ok (.putfield 15, 3) := by decide +kernel
theorem dX4_add_10 : decode cX4_add 10 = .ok (.iload_n 1, 1) := by decide +kernel
theorem dX4_add_11 : decode cX4_add 11 = .ok (.bipush 46, 2) := by decide +kernel
theorem dX4_add_13 : decode cX4_add 13 = .ok (.if_icmp .ne 16, 3) := by decide +kernel
theorem dX4_add_16 : decode cX4_add 16 = .ok (.aload_n 0, 1) := by decide +kernel
theorem dX4_add_17 : decode cX4_add 17 = .ok (.dup, 1) := by decide +kernel
theorem dX4_add_18 : decode cX4_add 18 = .ok (.getfield 22, 3) := by decide +kernel
theorem dX4_add_21 : decode cX4_add 21 = .ok (.iconst 1, 1) := by decide +kernel
theorem dX4_add_22 : decode cX4_add 22 = .ok (.iadd, 1) := by decide +kernel
theorem dX4_add_23 : decode cX4_add 23 = .ok (.putfield 22, 3) := by decide +kernel
theorem dX4_add_26 : decode cX4_add 26 = .ok (.goto 31, 3) := by decide +kernel
theorem dX4_add_29 : decode cX4_add 29 = .ok (.iload_n 1, 1) := by decide +kernel
theorem dX4_add_30 : decode cX4_add 30 = .ok (.invokestatic 52, 3) := by decide +kernel
theorem dX4_add_33 : decode cX4_add 33 = .ok (.ifCond .eq 16, 3) := by decide +kernel
theorem dX4_add_36 : decode cX4_add 36 = .ok (.aload_n 0, 1) := by decide +kernel
theorem dX4_add_37 : decode cX4_add 37 = .ok (.dup, 1) := by decide +kernel
theorem dX4_add_38 : decode cX4_add 38 = .ok (.getfield 19, 3) := by decide +kernel
theorem dX4_add_41 : decode cX4_add 41 = .ok (.iconst 1, 1) := by decide +kernel
theorem dX4_add_42 : decode cX4_add 42 = .ok (.iadd, 1) := by decide +kernel
theorem dX4_add_43 : decode cX4_add 43 = .ok (.putfield 19, 3) := by decide +kernel
theorem dX4_add_46 : decode cX4_add 46 = .ok (.goto 11, 3) := by decide +kernel
theorem dX4_add_49 : decode cX4_add 49 = .ok (.aload_n 0, 1) := by decide +kernel
theorem dX4_add_50 : decode cX4_add 50 = .ok (.iload_n 1, 1) := by decide +kernel
theorem dX4_add_51 : decode cX4_add 51 = .ok (.bipush 65, 2) := by decide +kernel
theorem dX4_add_53 : decode cX4_add 53 = .ok (.isub, 1) := by decide +kernel
theorem dX4_add_54 : decode cX4_add 54 = .ok (.invokevirtual 56, 3) := by decide +kernel
theorem dX4_add_57 : decode cX4_add 57 = .ok (.return_, 1) := by decide +kernel
theorem dX4_addPerson_0 : decode cX4_addPerson 0 = .ok (.iload_n 1, 1) := by decide +kernel
theorem dX4_addPerson_1 : decode cX4_addPerson 1 = .ok (.ifCond .lt 12, 3) := by decide +kernel
theorem dX4_addPerson_4 : decode cX4_addPerson 4 = .ok (.iload_n 1, 1) := by decide +kernel
theorem dX4_addPerson_5 : decode cX4_addPerson 5 = .ok (.aload_n 0, 1) := by decide +kernel
theorem dX4_addPerson_6 : decode cX4_addPerson 6 = .ok (.getfield 9, 3) := by decide +kernel
theorem dX4_addPerson_9 : decode cX4_addPerson 9 = .ok (.arraylength, 1) := by decide +kernel
theorem dX4_addPerson_10 : decode cX4_addPerson 10 = .ok (.if_icmp .lt 4, 3) := by decide +kernel
theorem dX4_addPerson_13 : decode cX4_addPerson 13 = .ok (.return_, 1) := by decide +kernel
theorem dX4_addPerson_14 : decode cX4_addPerson 14 = .ok (.aload_n 0, 1) := by decide +kernel
theorem dX4_addPerson_15 : decode cX4_addPerson 15 = .ok (.getfield 9, 3) := by decide +kernel
theorem dX4_addPerson_18 : decode cX4_addPerson 18 = .ok (.iload_n 1, 1) := by decide +kernel
theorem dX4_addPerson_19 : decode cX4_addPerson 19 = .ok (.dup2, 1) := by decide +kernel
theorem dX4_addPerson_20 : decode cX4_addPerson 20 = .ok (.iaload, 1) := by decide +kernel
theorem dX4_addPerson_21 : decode cX4_addPerson 21 = .ok (.iconst 1, 1) := by decide +kernel
theorem dX4_addPerson_22 : decode cX4_addPerson 22 = .ok (.iadd, 1) := by decide +kernel
theorem dX4_addPerson_23 : decode cX4_addPerson 23 = .ok (.iastore, 1) := by decide +kernel
theorem dX4_addPerson_24 : decode cX4_addPerson 24 = .ok (.aload_n 0, 1) := by decide +kernel
theorem dX4_addPerson_25 : decode cX4_addPerson 25 = .ok (.getfield 9, 3) := by decide +kernel
theorem dX4_addPerson_28 : decode cX4_addPerson 28 = .ok (.iload_n 1, 1) := by decide +kernel
theorem dX4_addPerson_29 : decode cX4_addPerson 29 = .ok (.iaload, 1) := by decide +kernel
theorem dX4_addPerson_30 : decode cX4_addPerson 30 = .ok (.iconst 1, 1) := by decide +kernel
theorem dX4_addPerson_31 : decode cX4_addPerson 31 = .ok (.if_icmp .ne 16, 3) := by decide +kernel
theorem dX4_addPerson_34 : decode cX4_addPerson 34 = .ok (.aload_n 0, 1) := by decide +kernel
theorem dX4_addPerson_35 : decode cX4_addPerson 35 = .ok (.dup, 1) := by decide +kernel
theorem dX4_addPerson_36 : decode cX4_addPerson 36 = .ok (.getfield 25, 3) := by decide +kernel
theorem dX4_addPerson_39 : decode cX4_addPerson 39 = .ok (.iconst 1, 1) := by decide +kernel
theorem dX4_addPerson_40 : decode cX4_addPerson 40 = .ok (.iadd, 1) := by decide +kernel
theorem dX4_addPerson_41 : decode cX4_addPerson 41 = .ok (.putfield 25, 3) := by decide +kernel
theorem dX4_addPerson_44 : decode cX4_addPerson 44 = .ok (.goto 41, 3) := by decide +kernel
theorem dX4_addPerson_47 : decode cX4_addPerson 47 = .ok (.aload_n 0, 1) := by decide +kernel
theorem dX4_addPerson_48 : decode cX4_addPerson 48 = .ok (.getfield 9, 3) := by decide +kernel
theorem dX4_addPerson_51 : decode cX4_addPerson 51 = .ok (.iload_n 1, 1) := by decide +kernel
theorem dX4_addPerson_52 : decode cX4_addPerson 52 = .ok (.iaload, 1) := by decide +kernel
theorem dX4_addPerson_53 : decode cX4_addPerson 53 = .ok (.iconst 2, 1) := by decide +kernel
theorem dX4_addPerson_54 : decode cX4_addPerson 54 = .ok (.if_icmp .ne 26, 3) := by decide +kernel
theorem dX4_addPerson_57 : decode cX4_addPerson 57 = .ok (.aload_n 0, 1) := by decide +kernel
theorem dX4_addPerson_58 : decode cX4_addPerson 58 = .ok (.dup, 1) := by decide +kernel
theorem dX4_addPerson_59 : decode cX4_addPerson 59 = .ok (.getfield 25, 3) := by decide +kernel
theorem dX4_addPerson_62 : decode cX4_addPerson 62 = .ok (.iconst 1, 1) := by decide +kernel
theorem dX4_addPerson_63 : decode cX4_addPerson 63 = .ok (.isub, 1) := by decide +kernel
theorem dX4_addPerson_64 : decode cX4_addPerson 64 = .ok (.putfield 25, 3) := by decide +kernel
theorem dX4_addPerson_67 : decode cX4_addPerson 67 = .ok (.aload_n 0, 1) := by decide +kernel
theorem dX4_addPerson_68 : decode cX4_addPerson 68 = .ok (.dup, 1) := by decide +kernel
theorem dX4_addPerson_69 : decode cX4_addPerson 69 = .ok (.getfield 28, 3) := by decide +kernel
theorem dX4_addPerson_72 : decode cX4_addPerson 72 = .ok (.iconst 1, 1) := by decide +kernel
theorem dX4_addPerson_73 : decode cX4_addPerson 73 = .ok (.iadd, 1) := by decide +kernel
theorem dX4_addPerson_74 : decode cX4_addPerson 74 = .ok (.putfield 28, 3) := by decide +kernel
theorem dX4_addPerson_77 : decode cX4_addPerson 77 = .ok (.goto 8, 3) := by decide +kernel
theorem dX4_addPerson_80 : decode cX4_addPerson 80 = .ok (.aload_n 0, 1) := by decide +kernel
theorem dX4_addPerson_81 : decode cX4_addPerson 81 = .ok (.iconst 1, 1) := by decide +kernel
theorem dX4_addPerson_82 : decode cX4_addPerson 82 = .ok (.putfield 31, 3) := by decide +kernel
theorem dX4_addPerson_85 : decode cX4_addPerson 85 = .ok (.return_, 1) := by decide +kernel
theorem dX4_valid_0 : decode cX4_valid 0 = .ok (.aload_n 0, 1) := by decide +kernel
theorem dX4_valid_1 : decode cX4_valid 1 = .ok (.getfield 15, 3) := by decide +kernel
theorem dX4_valid_4 : decode cX4_valid 4 = .ok (.aload_n 0, 1) := by decide +kernel
theorem dX4_valid_5 : decode cX4_valid 5 = .ok (.getfield 19, 3) := by decide +kernel
theorem dX4_valid_8 : decode cX4_valid 8 = .ok (.isub, 1) := by decide +kernel
theorem dX4_valid_9 : decode cX4_valid 9 = .ok (.ireturn, 1) := by decide +kernel
theorem dX4_singles_0 : decode cX4_singles 0 = .ok (.aload_n 0, 1) := by decide +kernel
theorem dX4_singles_1 : decode cX4_singles 1 = .ok (.getfield 22, 3) := by decide +kernel
theorem dX4_singles_4 : decode cX4_singles 4 = .ok (.aload_n 0, 1) := by decide +kernel
theorem dX4_singles_5 : decode cX4_singles 5 = .ok (.getfield 25, 3) := by decide +kernel
theorem dX4_singles_8 : decode cX4_singles 8 = .ok (.iadd, 1) := by decide +kernel
theorem dX4_singles_9 : decode cX4_singles 9 = .ok (.ireturn, 1) := by decide +kernel
theorem dX4_good_0 : decode cX4_good 0 = .ok (.aload_n 0, 1) := by decide +kernel
theorem dX4_good_1 : decode cX4_good 1 = .ok (.getfield 22, 3) := by decide +kernel
theorem dX4_good_4 : decode cX4_good 4 = .ok (.aload_n 0, 1) := by decide +kernel
theorem dX4_good_5 : decode cX4_good 5 = .ok (.getfield 25, 3) := by decide +kernel
theorem dX4_good_8 : decode cX4_good 8 = .ok (.iadd, 1) := by decide +kernel
theorem dX4_good_9 : decode cX4_good 9 = .ok (.aload_n 0, 1) := by decide +kernel
theorem dX4_good_10 : decode cX4_good 10 = .ok (.getfield 28, 3) := by decide +kernel
theorem dX4_good_13 : decode cX4_good 13 = .ok (.iadd, 1) := by decide +kernel
theorem dX4_good_14 : decode cX4_good 14 = .ok (.ireturn, 1) := by decide +kernel
theorem dX5_init_0 : decode cX5_init 0 = .ok (.aload_n 0, 1) := by decide +kernel
theorem dX5_init_1 : decode cX5_init 1 = .ok (.invokespecial 3, 3) := by decide +kernel
theorem dX5_init_4 : decode cX5_init 4 = .ok (.aload_n 0, 1) := by decide +kernel
theorem dX5_init_5 : decode cX5_init 5 = .ok (.iconst 0, 1) := by decide +kernel
theorem dX5_init_6 : decode cX5_init 6 = .ok (.iload_n 1, 1) := by decide +kernel
theorem dX5_init_7 : decode cX5_init 7 = .ok (.invokestatic 9, 3) := by decide +kernel
theorem dX5_init_10 : decode cX5_init 10 = .ok (.newarray .int, 2) := by decide +kernel
theorem dX5_init_12 : decode cX5_init 12 = .ok (.putfield 15, 3) := by decide +kernel
theorem dX5_init_15 : decode cX5_init 15 = .ok (.return_, 1) := by decide +kernel
theorem dX5_append_0 : decode cX5_append 0 = .ok (.aload_n 0, 1) := by decide +kernel
theorem dX5_append_1 : decode cX5_append 1 = .ok (.getfield 21, 3) := by decide +kernel
theorem dX5_append_4 : decode cX5_append 4 = .ok (.ifCond .lt 15, 3) := by decide +kernel
theorem dX5_append_7 : decode cX5_append 7 = .ok (.aload_n 0, 1) := by decide +kernel
theorem dX5_append_8 : decode cX5_append 8 = .ok (.getfield 21, 3) := by decide +kernel
theorem dX5_append_11 : decode cX5_append 11 = .ok (.aload_n 0, 1) := by decide +kernel
theorem dX5_append_12 : decode cX5_append 12 = .ok (.getfield 15, 3) := by decide +kernel
theorem dX5_append_15 : decode cX5_append 15 = .ok (.arraylength, 1) := by decide +kernel
theorem dX5_append_16 : decode cX5_append 16 = .ok (.if_icmp .lt 5, 3) := by decide +kernel
theorem dX5_append_19 : decode cX5_append 19 = .ok (.iconst 0, 1) := by decide +kernel
theorem dX5_append_20 : decode cX5_append 20 = .ok (.ireturn, 1) := by decide +kernel
theorem dX5_append_21 : decode cX5_append 21 = .ok (.aload_n 0, 1) := by decide +kernel
theorem dX5_append_22 : decode cX5_append 22 = .ok (.getfield 15, 3) := by decide +kernel
theorem dX5_append_25 : decode cX5_append 25 = .ok (.aload_n 0, 1) := by decide +kernel
theorem dX5_append_26 : decode cX5_append 26 = .ok (.getfield 21, 3) := by decide +kernel
theorem dX5_append_29 : decode cX5_append 29 = .ok (.iload_n 1, 1) := by decide +kernel
theorem dX5_append_30 : decode cX5_append 30 = .ok (.iastore, 1) := by decide +kernel
theorem dX5_append_31 : decode cX5_append 31 = .ok (.aload_n 0, 1) := by decide +kernel
theorem dX5_append_32 : decode cX5_append 32 = .ok (.dup, 1) := by decide +kernel
theorem dX5_append_33 : decode cX5_append 33 = .ok (.getfield 21, 3) := by decide +kernel
theorem dX5_append_36 : decode cX5_append 36 = .ok (.iconst 1, 1) := by decide +kernel
theorem dX5_append_37 : decode cX5_append 37 = .ok (.iadd, 1) := by decide +kernel
theorem dX5_append_38 : decode cX5_append 38 = .ok (.putfield 21, 3) := by decide +kernel
theorem dX5_append_41 : decode cX5_append 41 = .ok (.iconst 1, 1) := by decide +kernel
theorem dX5_append_42 : decode cX5_append 42 = .ok (.ireturn, 1) := by decide +kernel
theorem dX5_clear_0 : decode cX5_clear 0 = .ok (.aload_n 0, 1) := by decide +kernel
theorem dX5_clear_1 : decode cX5_clear 1 = .ok (.iconst 0, 1) := by decide +kernel
theorem dX5_clear_2 : decode cX5_clear 2 = .ok (.putfield 21, 3) := by decide +kernel
theorem dX5_clear_5 : decode cX5_clear 5 = .ok (.return_, 1) := by decide +kernel
theorem dX5_signAt_0 : decode cX5_signAt 0 = .ok (.iload_n 1, 1) := by decide +kernel
theorem dX5_signAt_1 : decode cX5_signAt 1 = .ok (.ifCond .lt 29, 3) := by decide +kernel
theorem dX5_signAt_4 : decode cX5_signAt 4 = .ok (.iload_n 1, 1) := by decide +kernel
theorem dX5_signAt_5 : decode cX5_signAt 5 = .ok (.aload_n 0, 1) := by decide +kernel
theorem dX5_signAt_6 : decode cX5_signAt 6 = .ok (.getfield 21, 3) := by decide +kernel
theorem dX5_signAt_9 : decode cX5_signAt 9 = .ok (.if_icmp .ge 21, 3) := by decide +kernel
theorem dX5_signAt_12 : decode cX5_signAt 12 = .ok (.iload_n 1, 1) := by decide +kernel
theorem dX5_signAt_13 : decode cX5_signAt 13 = .ok (.aload_n 0, 1) := by decide +kernel
theorem dX5_signAt_14 : decode cX5_signAt 14 = .ok (.getfield 15, 3) := by decide +kernel
theorem dX5_signAt_17 : decode cX5_signAt 17 = .ok (.arraylength, 1) := by decide +kernel
theorem dX5_signAt_18 : decode cX5_signAt 18 = .ok (.if_icmp .ge 12, 3) := by decide +kernel
theorem dX5_signAt_21 : decode cX5_signAt 21 = .ok (.aload_n 0, 1) := by decide +kernel
theorem dX5_signAt_22 : decode cX5_signAt 22 = .ok (.getfield 15, 3) := by decide +kernel
theorem dX5_signAt_25 : decode cX5_signAt 25 = .ok (.iload_n 1, 1) := by decide +kernel
theorem dX5_signAt_26 : decode cX5_signAt 26 = .ok (.iaload, 1) := by decide +kernel
theorem dX5_signAt_27 : decode cX5_signAt 27 = .ok (.goto 5, 3) := by decide +kernel
theorem dX5_signAt_30 : decode cX5_signAt 30 = .ok (.bipush (-6), 2) := by decide +kernel
theorem dX5_signAt_32 : decode cX5_signAt 32 = .ok (.ireturn, 1) := by decide +kernel
theorem dX5_become_0 : decode cX5_become 0 = .ok (.aload_n 0, 1) := by decide +kernel
theorem dX5_become_1 : decode cX5_become 1 = .ok (.invokevirtual 25, 3) := by decide +kernel
theorem dX5_become_4 : decode cX5_become 4 = .ok (.iconst 0, 1) := by decide +kernel
theorem dX5_become_5 : decode cX5_become 5 = .ok (.istore_n 2, 1) := by decide +kernel
theorem dX5_become_6 : decode cX5_become 6 = .ok (.iload_n 2, 1) := by decide +kernel
theorem dX5_become_7 : decode cX5_become 7 = .ok (.aload_n 1, 1) := by decide +kernel
theorem dX5_become_8 : decode cX5_become 8 = .ok (.getfield 21, 3) := by decide +kernel
theorem dX5_become_11 : decode cX5_become 11 = .ok (.if_icmp .ge 19, 3) := by decide +kernel
theorem dX5_become_14 : decode cX5_become 14 = .ok (.aload_n 0, 1) := by decide +kernel
theorem dX5_become_15 : decode cX5_become 15 = .ok (.aload_n 1, 1) := by decide +kernel
theorem dX5_become_16 : decode cX5_become 16 = .ok (.iload_n 2, 1) := by decide +kernel
theorem dX5_become_17 : decode cX5_become 17 = .ok (.invokevirtual 28, 3) := by decide +kernel
theorem dX5_become_20 : decode cX5_become 20 = .ok (.invokevirtual 32, 3) := by decide +kernel
theorem dX5_become_23 : decode cX5_become 23 = .ok (.pop, 1) := by decide +kernel
theorem dX5_become_24 : decode cX5_become 24 = .ok (.iinc 2 1, 3) := by decide +kernel
theorem dX5_become_27 : decode cX5_become 27 = .ok (.goto (-21), 3) := by decide +kernel
theorem dX5_become_30 : decode cX5_become 30 = .ok (.return_, 1) := by decide +kernel
theorem dX6_init_0 : decode cX6_init 0 = .ok (.aload_n 0, 1) := by decide +kernel
theorem dX6_init_1 : decode cX6_init 1 = .ok (.invokespecial 3, 3) := by decide +kernel
theorem dX6_init_4 : decode cX6_init 4 = .ok (.aload_n 0, 1) := by decide +kernel
theorem dX6_init_5 : decode cX6_init 5 = .ok (.new 9, 3) := by decide +kernel
theorem dX6_init_8 : decode cX6_init 8 = .ok (.dup, 1) := by decide +kernel
theorem dX6_init_9 : decode cX6_init 9 = .ok (.bipush 16, 2) := by decide +kernel
theorem dX6_init_11 : decode cX6_init 11 = .ok (.invokespecial 11, 3) := by decide +kernel
theorem dX6_init_14 : decode cX6_init 14 = .ok (.putfield 14, 3) := by decide +kernel
theorem dX6_init_17 : decode cX6_init 17 = .ok (.aload_n 0, 1) := by decide +kernel
theorem dX6_init_18 : decode cX6_init 18 = .ok (.new 18, 3) := by decide +kernel
theorem dX6_init_21 : decode cX6_init 21 = .ok (.dup, 1) := by decide +kernel
theorem dX6_init_22 : decode cX6_init 22 = .ok (.invokespecial 20, 3) := by decide +kernel
theorem dX6_init_25 : decode cX6_init 25 = .ok (.putfield 21, 3) := by decide +kernel
theorem dX6_init_28 : decode cX6_init 28 = .ok (.aload_n 0, 1) := by decide +kernel
theorem dX6_init_29 : decode cX6_init 29 = .ok (.new 18, 3) := by decide +kernel
theorem dX6_init_32 : decode cX6_init 32 = .ok (.dup, 1) := by decide +kernel
theorem dX6_init_33 : decode cX6_init 33 = .ok (.invokespecial 20, 3) := by decide +kernel
theorem dX6_init_36 : decode cX6_init 36 = .ok (.putfield 25, 3) := by decide +kernel
theorem dX6_init_39 : decode cX6_init 39 = .ok (.aload_n 0, 1) := by decide +kernel
theorem dX6_init_40 : decode cX6_init 40 = .ok (.new 18, 3) := by decide +kernel
theorem dX6_init_43 : decode cX6_init 43 = .ok (.dup, 1) := by decide +kernel
theorem dX6_init_44 : decode cX6_init 44 = .ok (.invokespecial 20, 3) := by decide +kernel
theorem dX6_init_47 : decode cX6_init 47 = .ok (.putfield 28, 3) := by decide +kernel
theorem dX6_init_50 : decode cX6_init 50 = .ok (.aload_n 0, 1) := by decide +kernel
theorem dX6_init_51 : decode cX6_init 51 = .ok (.new 31, 3) := by decide +kernel
theorem dX6_init_54 : decode cX6_init 54 = .ok (.dup, 1) := by decide +kernel
theorem dX6_init_55 : decode cX6_init 55 = .ok (.invokespecial 33, 3) := by decide +kernel
theorem dX6_init_58 : decode cX6_init 58 = .ok (.putfield 34, 3) := by decide +kernel
theorem dX6_init_61 : decode cX6_init 61 = .ok (.aload_n 0, 1) := by decide +kernel
theorem dX6_init_62 : decode cX6_init 62 = .ok (.new 31, 3) := by decide +kernel
theorem dX6_init_65 : decode cX6_init 65 = .ok (.dup, 1) := by decide +kernel
theorem dX6_init_66 : decode cX6_init 66 = .ok (.invokespecial 33, 3) := by decide +kernel
theorem dX6_init_69 : decode cX6_init 69 = .ok (.putfield 38, 3) := by decide +kernel
theorem dX6_init_72 : decode cX6_init 72 = .ok (.aload_n 0, 1) := by decide +kernel
theorem dX6_init_73 : decode cX6_init 73 = .ok (.new 41, 3) := by decide +kernel
theorem dX6_init_76 : decode cX6_init 76 = .ok (.dup, 1) := by decide +kernel
theorem dX6_init_77 : decode cX6_init 77 = .ok (.invokespecial 43, 3) := by decide +kernel
theorem dX6_init_80 : decode cX6_init 80 = .ok (.putfield 44, 3) := by decide +kernel
theorem dX6_init_83 : decode cX6_init 83 = .ok (.aload_n 0, 1) := by decide +kernel
theorem dX6_init_84 : decode cX6_init 84 = .ok (.new 48, 3) := by decide +kernel
theorem dX6_init_87 : decode cX6_init 87 = .ok (.dup, 1) := by decide +kernel
theorem dX6_init_88 : decode cX6_init 88 = .ok (.invokespecial 50, 3) := by decide +kernel
theorem dX6_init_91 : decode cX6_init 91 = .ok (.putfield 51, 3) := by decide +kernel
theorem dX6_init_94 : decode cX6_init 94 = .ok (.aload_n 0, 1) := by decide +kernel
theorem dX6_init_95 : decode cX6_init 95 = .ok (.new 55, 3) := by decide +kernel
theorem dX6_init_98 : decode cX6_init 98 = .ok (.dup, 1) := by decide +kernel
theorem dX6_init_99 : decode cX6_init 99 = .ok (.invokespecial 57, 3) := by decide +kernel
theorem dX6_init_102 : decode cX6_init 102 = .ok (.putfield 58, 3) := by decide +kernel
theorem dX6_init_105 : decode cX6_init 105 = .ok (.aload_n 0, 1) := by decide +kernel
theorem dX6_init_106 : decode cX6_init 106 = .ok (.new 55, 3) := by decide +kernel
theorem dX6_init_109 : decode cX6_init 109 = .ok (.dup, 1) := by decide +kernel
theorem dX6_init_110 : decode cX6_init 110 = .ok (.invokespecial 57, 3) := by decide +kernel
theorem dX6_init_113 : decode cX6_init 113 = .ok (.putfield 62, 3) := by decide +kernel
theorem dX6_init_116 : decode cX6_init 116 = .ok (.aload_n 0, 1) := by decide +kernel
theorem dX6_init_117 : decode cX6_init 117 = .ok (.bipush 60, 2) := by decide +kernel
theorem dX6_init_119 : decode cX6_init 119 = .ok (.newarray .int, 2) := by decide +kernel
theorem dX6_init_121 : decode cX6_init 121 = .ok (.putfield 65, 3) := by decide +kernel
theorem dX6_init_124 : decode cX6_init 124 = .ok (.return_, 1) := by decide +kernel
theorem dX6_say_0 : decode cX6_say 0 = .ok (.iload_n 1, 1) := by decide +kernel
theorem dX6_say_1 : decode cX6_say 1 = .ok (.bipush 33, 2) := by decide +kernel
theorem dX6_say_3 : decode cX6_say 3 = .ok (.bipush 126, 2) := by decide +kernel
theorem dX6_say_5 : decode cX6_say 5 = .ok (.invokestatic 69, 3) := by decide +kernel
theorem dX6_say_8 : decode cX6_say 8 = .ok (.ifCond .ne 6, 3) := by decide +kernel
theorem dX6_say_11 : decode cX6_say 11 = .ok (.bipush (-2), 2) := by decide +kernel
theorem dX6_say_13 : decode cX6_say 13 = .ok (.ireturn, 1) := by decide +kernel
theorem dX6_say_14 : decode cX6_say 14 = .ok (.aload_n 0, 1) := by decide +kernel
theorem dX6_say_15 : decode cX6_say 15 = .ok (.getfield 14, 3) := by decide +kernel
theorem dX6_say_18 : decode cX6_say 18 = .ok (.iload_n 1, 1) := by decide +kernel
theorem dX6_say_19 : decode cX6_say 19 = .ok (.invokevirtual 73, 3) := by decide +kernel
theorem dX6_say_22 : decode cX6_say 22 = .ok (.ifCond .eq 13, 3) := by decide +kernel
theorem dX6_say_25 : decode cX6_say 25 = .ok (.aload_n 0, 1) := by decide +kernel
theorem dX6_say_26 : decode cX6_say 26 = .ok (.getfield 14, 3) := by decide +kernel
theorem dX6_say_29 : decode cX6_say 29 = .ok (.getfield 77, 3) := by decide +kernel
theorem dX6_say_32 : decode cX6_say 32 = .ok (.goto 5, 3) := by decide +kernel
theorem dX6_say_35 : decode cX6_say 35 = .ok (.bipush (-4), 2) := by decide +kernel
theorem dX6_say_37 : decode cX6_say 37 = .ok (.ireturn, 1) := by decide +kernel
theorem dX6_wipe_0 : decode cX6_wipe 0 = .ok (.aload_n 0, 1) := by decide +kernel
theorem dX6_wipe_1 : decode cX6_wipe 1 = .ok (.getfield 14, 3) := by decide +kernel
theorem dX6_wipe_4 : decode cX6_wipe 4 = .ok (.getfield 77, 3) := by decide +kernel
theorem dX6_wipe_7 : decode cX6_wipe 7 = .ok (.istore_n 1, 1) := by decide +kernel
theorem dX6_wipe_8 : decode cX6_wipe 8 = .ok (.aload_n 0, 1) := by decide +kernel
theorem dX6_wipe_9 : decode cX6_wipe 9 = .ok (.getfield 14, 3) := by decide +kernel
theorem dX6_wipe_12 : decode cX6_wipe 12 = .ok (.invokevirtual 81, 3) := by decide +kernel
theorem dX6_wipe_15 : decode cX6_wipe 15 = .ok (.iload_n 1, 1) := by decide +kernel
theorem dX6_wipe_16 : decode cX6_wipe 16 = .ok (.ireturn, 1) := by decide +kernel
theorem dX6_fault_0 : decode cX6_fault 0 = .ok (.iload_n 1, 1) := by decide +kernel
theorem dX6_fault_1 : decode cX6_fault 1 = .ok (.iconst 0, 1) := by decide +kernel
theorem dX6_fault_2 : decode cX6_fault 2 = .ok (.iconst 1, 1) := by decide +kernel
theorem dX6_fault_3 : decode cX6_fault 3 = .ok (.invokestatic 69, 3) := by decide +kernel
theorem dX6_fault_6 : decode cX6_fault 6 = .ok (.ifCond .ne 6, 3) := by decide +kernel
theorem dX6_fault_9 : decode cX6_fault 9 = .ok (.bipush (-2), 2) := by decide +kernel
theorem dX6_fault_11 : decode cX6_fault 11 = .ok (.ireturn, 1) := by decide +kernel
theorem dX6_fault_12 : decode cX6_fault 12 = .ok (.iload_n 1, 1) := by decide +kernel
theorem dX6_fault_13 : decode cX6_fault 13 = .ok (.ifCond .ne 10, 3) := by decide +kernel
theorem dX6_fault_16 : decode cX6_fault 16 = .ok (.aload_n 0, 1) := by decide +kernel
theorem dX6_fault_17 : decode cX6_fault 17 = .ok (.invokevirtual 84, 3) := by decide +kernel
theorem dX6_fault_20 : decode cX6_fault 20 = .ok (.goto 7, 3) := by decide +kernel
theorem dX6_fault_23 : decode cX6_fault 23 = .ok (.aload_n 0, 1) := by decide +kernel
theorem dX6_fault_24 : decode cX6_fault 24 = .ok (.invokevirtual 88, 3) := by decide +kernel
theorem dX6_fault_27 : decode cX6_fault 27 = .ok (.ireturn, 1) := by decide +kernel
theorem dX6_names_0 : decode cX6_names 0 = .ok (.iload_n 1, 1) := by decide +kernel
theorem dX6_names_1 : decode cX6_names 1 = .ok (.invokestatic 91, 3) := by decide +kernel
theorem dX6_names_4 : decode cX6_names 4 = .ok (.ifCond .ne 5, 3) := by decide +kernel
theorem dX6_names_7 : decode cX6_names 7 = .ok (.iconst (-1), 1) := by decide +kernel
theorem dX6_names_8 : decode cX6_names 8 = .ok (.ireturn, 1) := by decide +kernel
theorem dX6_names_9 : decode cX6_names 9 = .ok (.aload_n 0, 1) := by decide +kernel
theorem dX6_names_10 : decode cX6_names 10 = .ok (.invokevirtual 84, 3) := by decide +kernel
theorem dX6_names_13 : decode cX6_names 13 = .ok (.bipush (-6), 2) := by decide +kernel
theorem dX6_names_15 : decode cX6_names 15 = .ok (.if_icmp .eq 6, 3) := by decide +kernel
theorem dX6_names_18 : decode cX6_names 18 = .ok (.bipush (-5), 2) := by decide +kernel
theorem dX6_names_20 : decode cX6_names 20 = .ok (.ireturn, 1) := by decide +kernel
theorem dX6_names_21 : decode cX6_names 21 = .ok (.aload_n 0, 1) := by decide +kernel
theorem dX6_names_22 : decode cX6_names 22 = .ok (.getfield 21, 3) := by decide +kernel
theorem dX6_names_25 : decode cX6_names 25 = .ok (.iload_n 1, 1) := by decide +kernel
theorem dX6_names_26 : decode cX6_names 26 = .ok (.aload_n 0, 1) := by decide +kernel
theorem dX6_names_27 : decode cX6_names 27 = .ok (.getfield 14, 3) := by decide +kernel
theorem dX6_names_30 : decode cX6_names 30 = .ok (.invokevirtual 94, 3) := by decide +kernel
theorem dX6_names_33 : decode cX6_names 33 = .ok (.aload_n 0, 1) := by decide +kernel
theorem dX6_names_34 : decode cX6_names 34 = .ok (.invokevirtual 98, 3) := by decide +kernel
theorem dX6_names_37 : decode cX6_names 37 = .ok (.ireturn, 1) := by decide +kernel
theorem dX6_set_0 : decode cX6_set 0 = .ok (.iload_n 1, 1) := by decide +kernel
theorem dX6_set_1 : decode cX6_set 1 = .ok (.invokestatic 91, 3) := by decide +kernel
theorem dX6_set_4 : decode cX6_set 4 = .ok (.ifCond .ne 5, 3) := by decide +kernel
theorem dX6_set_7 : decode cX6_set 7 = .ok (.iconst (-1), 1) := by decide +kernel
theorem dX6_set_8 : decode cX6_set 8 = .ok (.ireturn, 1) := by decide +kernel
theorem dX6_set_9 : decode cX6_set 9 = .ok (.iload_n 2, 1) := by decide +kernel
theorem dX6_set_10 : decode cX6_set 10 = .ok (.iconst 0, 1) := by decide +kernel
theorem dX6_set_11 : decode cX6_set 11 = .ok (.iconst 1, 1) := by decide +kernel
theorem dX6_set_12 : decode cX6_set 12 = .ok (.invokestatic 69, 3) := by decide +kernel
theorem dX6_set_15 : decode cX6_set 15 = .ok (.ifCond .eq 20, 3) := by decide +kernel
theorem dX6_set_18 : decode cX6_set 18 = .ok (.iload_n 3, 1) := by decide +kernel
theorem dX6_set_19 : decode cX6_set 19 = .ok (.iconst 0, 1) := by decide +kernel
theorem dX6_set_20 : decode cX6_set 20 = .ok (.iload_n 2, 1) := by decide +kernel
theorem dX6_set_21 : decode cX6_set 21 = .ok (.ifCond .ne 7, 3) := by decide +kernel
theorem dX6_set_24 : decode cX6_set 24 = .ok (.iconst 4, 1) := by decide +kernel
theorem dX6_set_25 : decode cX6_set 25 = .ok (.goto 4, 3) := by decide +kernel
theorem dX6_set_28 : decode cX6_set 28 = .ok (.iconst 1, 1) := by decide +kernel
theorem dX6_set_29 : decode cX6_set 29 = .ok (.invokestatic 69, 3) := by decide +kernel
theorem dX6_set_32 : decode cX6_set 32 = .ok (.ifCond .ne 6, 3) := by decide +kernel
theorem dX6_set_35 : decode cX6_set 35 = .ok (.bipush (-2), 2) := by decide +kernel
theorem dX6_set_37 : decode cX6_set 37 = .ok (.ireturn, 1) := by decide +kernel
theorem dX6_set_38 : decode cX6_set 38 = .ok (.iload_n 2, 1) := by decide +kernel
theorem dX6_set_39 : decode cX6_set 39 = .ok (.ifCond .ne 15, 3) := by decide +kernel
theorem dX6_set_42 : decode cX6_set 42 = .ok (.aload_n 0, 1) := by decide +kernel
theorem dX6_set_43 : decode cX6_set 43 = .ok (.getfield 21, 3) := by decide +kernel
theorem dX6_set_46 : decode cX6_set 46 = .ok (.iload_n 1, 1) := by decide +kernel
theorem dX6_set_47 : decode cX6_set 47 = .ok (.iload_n 3, 1) := by decide +kernel
theorem dX6_set_48 : decode cX6_set 48 = .ok (.invokevirtual 101, 3) := by decide +kernel
theorem dX6_set_51 : decode cX6_set 51 = .ok (.goto 12, 3) := by decide +kernel
theorem dX6_set_54 : decode cX6_set 54 = .ok (.aload_n 0, 1) := by decide +kernel
theorem dX6_set_55 : decode cX6_set 55 = .ok (.getfield 21, 3) := by decide +kernel
theorem dX6_set_58 : decode cX6_set 58 = .ok (.iload_n 1, 1) := by decide +kernel
theorem dX6_set_59 : decode cX6_set 59 = .ok (.iload_n 3, 1) := by decide +kernel
theorem dX6_set_60 : decode cX6_set 60 = .ok (.invokevirtual 105, 3) := by decide +kernel
theorem dX6_set_63 : decode cX6_set 63 = .ok (.ireturn, 1) := by decide +kernel
theorem dX6_sheet_0 : decode cX6_sheet 0 = .ok (.iload_n 1, 1) := by decide +kernel
theorem dX6_sheet_1 : decode cX6_sheet 1 = .ok (.invokestatic 91, 3) := by decide +kernel
theorem dX6_sheet_4 : decode cX6_sheet 4 = .ok (.ifCond .ne 5, 3) := by decide +kernel
theorem dX6_sheet_7 : decode cX6_sheet 7 = .ok (.iconst (-1), 1) := by decide +kernel
theorem dX6_sheet_8 : decode cX6_sheet 8 = .ok (.ireturn, 1) := by decide +kernel
theorem dX6_sheet_9 : decode cX6_sheet 9 = .ok (.iload_n 2, 1) := by decide +kernel
theorem dX6_sheet_10 : decode cX6_sheet 10 = .ok (.iconst (-1), 1) := by decide +kernel
theorem dX6_sheet_11 : decode cX6_sheet 11 = .ok (.if_icmp .ne 14, 3) := by decide +kernel
theorem dX6_sheet_14 : decode cX6_sheet 14 = .ok (.aload_n 0, 1) := by decide +kernel
theorem dX6_sheet_15 : decode cX6_sheet 15 = .ok (.getfield 21, 3) := by decide +kernel
theorem dX6_sheet_18 : decode cX6_sheet 18 = .ok (.iload_n 1, 1) := by decide +kernel
theorem dX6_sheet_19 : decode cX6_sheet 19 = .ok (.invokevirtual 108, 3) := by decide +kernel
theorem dX6_sheet_22 : decode cX6_sheet 22 = .ok (.goto 12, 3) := by decide +kernel
theorem dX6_sheet_25 : decode cX6_sheet 25 = .ok (.aload_n 0, 1) := by decide +kernel
theorem dX6_sheet_26 : decode cX6_sheet 26 = .ok (.getfield 21, 3) := by decide +kernel
theorem dX6_sheet_29 : decode cX6_sheet 29 = .ok (.iload_n 1, 1) := by decide +kernel
theorem dX6_sheet_30 : decode cX6_sheet 30 = .ok (.iload_n 2, 1) := by decide +kernel
theorem dX6_sheet_31 : decode cX6_sheet 31 = .ok (.invokevirtual 112, 3) := by decide +kernel
theorem dX6_sheet_34 : decode cX6_sheet 34 = .ok (.ireturn, 1) := by decide +kernel
theorem dX6_count_0 : decode cX6_count 0 = .ok (.iload_n 1, 1) := by decide +kernel
theorem dX6_count_1 : decode cX6_count 1 = .ok (.iconst 0, 1) := by decide +kernel
theorem dX6_count_2 : decode cX6_count 2 = .ok (.iconst 3, 1) := by decide +kernel
theorem dX6_count_3 : decode cX6_count 3 = .ok (.invokestatic 69, 3) := by decide +kernel
theorem dX6_count_6 : decode cX6_count 6 = .ok (.ifCond .ne 6, 3) := by decide +kernel
theorem dX6_count_9 : decode cX6_count 9 = .ok (.bipush (-2), 2) := by decide +kernel
theorem dX6_count_11 : decode cX6_count 11 = .ok (.ireturn, 1) := by decide +kernel
theorem dX6_count_12 : decode cX6_count 12 = .ok (.aload_n 0, 1) := by decide +kernel
theorem dX6_count_13 : decode cX6_count 13 = .ok (.invokevirtual 115, 3) := by decide +kernel
theorem dX6_count_16 : decode cX6_count 16 = .ok (.iload_n 1, 1) := by decide +kernel
theorem dX6_count_17 : decode cX6_count 17 = .ok (.ifCond .ne 11, 3) := by decide +kernel
theorem dX6_count_20 : decode cX6_count 20 = .ok (.aload_n 0, 1) := by decide +kernel
theorem dX6_count_21 : decode cX6_count 21 = .ok (.getfield 34, 3) := by decide +kernel
theorem dX6_count_24 : decode cX6_count 24 = .ok (.getfield 118, 3) := by decide +kernel
theorem dX6_count_27 : decode cX6_count 27 = .ok (.ireturn, 1) := by decide +kernel
theorem dX6_count_28 : decode cX6_count 28 = .ok (.iload_n 1, 1) := by decide +kernel
theorem dX6_count_29 : decode cX6_count 29 = .ok (.iconst 1, 1) := by decide +kernel
theorem dX6_count_30 : decode cX6_count 30 = .ok (.if_icmp .ne 11, 3) := by decide +kernel
theorem dX6_count_33 : decode cX6_count 33 = .ok (.aload_n 0, 1) := by decide +kernel
theorem dX6_count_34 : decode cX6_count 34 = .ok (.getfield 34, 3) := by decide +kernel
theorem dX6_count_37 : decode cX6_count 37 = .ok (.getfield 121, 3) := by decide +kernel
theorem dX6_count_40 : decode cX6_count 40 = .ok (.ireturn, 1) := by decide +kernel
theorem dX6_count_41 : decode cX6_count 41 = .ok (.aload_n 0, 1) := by decide +kernel
theorem dX6_count_42 : decode cX6_count 42 = .ok (.getfield 34, 3) := by decide +kernel
theorem dX6_count_45 : decode cX6_count 45 = .ok (.getfield 124, 3) := by decide +kernel
theorem dX6_count_48 : decode cX6_count 48 = .ok (.ifCond .eq 6, 3) := by decide +kernel
theorem dX6_count_51 : decode cX6_count 51 = .ok (.bipush (-3), 2) := by decide +kernel
theorem dX6_count_53 : decode cX6_count 53 = .ok (.ireturn, 1) := by decide +kernel
theorem dX6_count_54 : decode cX6_count 54 = .ok (.iload_n 1, 1) := by decide +kernel
theorem dX6_count_55 : decode cX6_count 55 = .ok (.iconst 2, 1) := by decide +kernel
theorem dX6_count_56 : decode cX6_count 56 = .ok (.if_icmp .ne 13, 3) := by decide +kernel
theorem dX6_count_59 : decode cX6_count 59 = .ok (.aload_n 0, 1) := by decide +kernel
theorem dX6_count_60 : decode cX6_count 60 = .ok (.getfield 34, 3) := by decide +kernel
theorem dX6_count_63 : decode cX6_count 63 = .ok (.getfield 128, 3) := by decide +kernel
theorem dX6_count_66 : decode cX6_count 66 = .ok (.goto 10, 3) := by decide +kernel
theorem dX6_count_69 : decode cX6_count 69 = .ok (.aload_n 0, 1) := by decide +kernel
theorem dX6_count_70 : decode cX6_count 70 = .ok (.getfield 34, 3) := by decide +kernel
theorem dX6_count_73 : decode cX6_count 73 = .ok (.invokevirtual 131, 3) := by decide +kernel
theorem dX6_count_76 : decode cX6_count 76 = .ok (.ireturn, 1) := by decide +kernel
theorem dX6_need_0 : decode cX6_need 0 = .ok (.iload_n 1, 1) := by decide +kernel
theorem dX6_need_1 : decode cX6_need 1 = .ok (.iconst 0, 1) := by decide +kernel
theorem dX6_need_2 : decode cX6_need 2 = .ok (.bipush 60, 2) := by decide +kernel
theorem dX6_need_4 : decode cX6_need 4 = .ok (.invokestatic 69, 3) := by decide +kernel
theorem dX6_need_7 : decode cX6_need 7 = .ok (.ifCond .ne 6, 3) := by decide +kernel
theorem dX6_need_10 : decode cX6_need 10 = .ok (.bipush (-2), 2) := by decide +kernel
theorem dX6_need_12 : decode cX6_need 12 = .ok (.ireturn, 1) := by decide +kernel
theorem dX6_need_13 : decode cX6_need 13 = .ok (.aload_n 0, 1) := by decide +kernel
theorem dX6_need_14 : decode cX6_need 14 = .ok (.getfield 21, 3) := by decide +kernel
theorem dX6_need_17 : decode cX6_need 17 = .ok (.getfield 134, 3) := by decide +kernel
theorem dX6_need_20 : decode cX6_need 20 = .ok (.istore_n 2, 1) := by decide +kernel
theorem dX6_need_21 : decode cX6_need 21 = .ok (.aload_n 0, 1) := by decide +kernel
theorem dX6_need_22 : decode cX6_need 22 = .ok (.getfield 21, 3) := by decide +kernel
theorem dX6_need_25 : decode cX6_need 25 = .ok (.iload_n 1, 1) := by decide +kernel
theorem dX6_need_26 : decode cX6_need 26 = .ok (.putfield 134, 3) := by decide +kernel
theorem dX6_need_29 : decode cX6_need 29 = .ok (.iload_n 2, 1) := by decide +kernel
theorem dX6_need_30 : decode cX6_need 30 = .ok (.ireturn, 1) := by decide +kernel
theorem dX6_rule_0 : decode cX6_rule 0 = .ok (.aload_n 0, 1) := by decide +kernel
theorem dX6_rule_1 : decode cX6_rule 1 = .ok (.invokevirtual 88, 3) := by decide +kernel
theorem dX6_rule_4 : decode cX6_rule 4 = .ok (.bipush (-6), 2) := by decide +kernel
theorem dX6_rule_6 : decode cX6_rule 6 = .ok (.if_icmp .eq 6, 3) := by decide +kernel
theorem dX6_rule_9 : decode cX6_rule 9 = .ok (.bipush (-5), 2) := by decide +kernel
theorem dX6_rule_11 : decode cX6_rule 11 = .ok (.ireturn, 1) := by decide +kernel
theorem dX6_rule_12 : decode cX6_rule 12 = .ok (.aload_n 0, 1) := by decide +kernel
theorem dX6_rule_13 : decode cX6_rule 13 = .ok (.getfield 21, 3) := by decide +kernel
theorem dX6_rule_16 : decode cX6_rule 16 = .ok (.getfield 137, 3) := by decide +kernel
theorem dX6_rule_19 : decode cX6_rule 19 = .ok (.aload_n 0, 1) := by decide +kernel
theorem dX6_rule_20 : decode cX6_rule 20 = .ok (.getfield 14, 3) := by decide +kernel
theorem dX6_rule_23 : decode cX6_rule 23 = .ok (.invokevirtual 140, 3) := by decide +kernel
theorem dX6_rule_26 : decode cX6_rule 26 = .ok (.aload_n 0, 1) := by decide +kernel
theorem dX6_rule_27 : decode cX6_rule 27 = .ok (.invokevirtual 98, 3) := by decide +kernel
theorem dX6_rule_30 : decode cX6_rule 30 = .ok (.ireturn, 1) := by decide +kernel
theorem dX6_comes_0 : decode cX6_comes 0 = .ok (.iload_n 1, 1) := by decide +kernel
theorem dX6_comes_1 : decode cX6_comes 1 = .ok (.invokestatic 144, 3) := by decide +kernel
theorem dX6_comes_4 : decode cX6_comes 4 = .ok (.ifCond .eq 33, 3) := by decide +kernel
theorem dX6_comes_7 : decode cX6_comes 7 = .ok (.iload_n 2, 1) := by decide +kernel
theorem dX6_comes_8 : decode cX6_comes 8 = .ok (.invokestatic 144, 3) := by decide +kernel
theorem dX6_comes_11 : decode cX6_comes 11 = .ok (.ifCond .eq 26, 3) := by decide +kernel
theorem dX6_comes_14 : decode cX6_comes 14 = .ok (.iload_n 3, 1) := by decide +kernel
theorem dX6_comes_15 : decode cX6_comes 15 = .ok (.invokestatic 144, 3) := by decide +kernel
theorem dX6_comes_18 : decode cX6_comes 18 = .ok (.ifCond .eq 19, 3) := by decide +kernel
theorem dX6_comes_21 : decode cX6_comes 21 = .ok (.iload 4, 2) := by decide +kernel
theorem dX6_comes_23 : decode cX6_comes 23 = .ok (.invokestatic 144, 3) := by decide +kernel
theorem dX6_comes_26 : decode cX6_comes 26 = .ok (.ifCond .eq 11, 3) := by decide +kernel
theorem dX6_comes_29 : decode cX6_comes 29 = .ok (.iload 5, 2) := by decide +kernel
theorem dX6_comes_31 : decode cX6_comes 31 = .ok (.invokestatic 147, 3) := by decide +kernel
theorem dX6_comes_34 : decode cX6_comes 34 = .ok (.ifCond .ne 7, 3) := by decide +kernel
theorem dX6_comes_37 : decode cX6_comes 37 = .ok (.ldc2_w 150, 3) := by decide +kernel
theorem dX6_comes_40 : decode cX6_comes 40 = .ok (.lreturn, 1) := by decide +kernel
theorem dX6_comes_41 : decode cX6_comes 41 = .ok (.aload_n 0, 1) := by decide +kernel
theorem dX6_comes_42 : decode cX6_comes 42 = .ok (.getfield 51, 3) := by decide +kernel
theorem dX6_comes_45 : decode cX6_comes 45 = .ok (.aload_n 0, 1) := by decide +kernel
theorem dX6_comes_46 : decode cX6_comes 46 = .ok (.getfield 21, 3) := by decide +kernel
theorem dX6_comes_49 : decode cX6_comes 49 = .ok (.getfield 137, 3) := by decide +kernel
theorem dX6_comes_52 : decode cX6_comes 52 = .ok (.iload_n 1, 1) := by decide +kernel
theorem dX6_comes_53 : decode cX6_comes 53 = .ok (.iload_n 2, 1) := by decide +kernel
theorem dX6_comes_54 : decode cX6_comes 54 = .ok (.iload_n 3, 1) := by decide +kernel
theorem dX6_comes_55 : decode cX6_comes 55 = .ok (.iload 4, 2) := by decide +kernel
theorem dX6_comes_57 : decode cX6_comes 57 = .ok (.invokevirtual 152, 3) := by decide +kernel
theorem dX6_comes_60 : decode cX6_comes 60 = .ok (.ifCond .ne 7, 3) := by decide +kernel
theorem dX6_comes_63 : decode cX6_comes 63 = .ok (.ldc2_w 156, 3) := by decide +kernel
theorem dX6_comes_66 : decode cX6_comes 66 = .ok (.lreturn, 1) := by decide +kernel
theorem dX6_comes_67 : decode cX6_comes 67 = .ok (.aload_n 0, 1) := by decide +kernel
theorem dX6_comes_68 : decode cX6_comes 68 = .ok (.getfield 58, 3) := by decide +kernel
theorem dX6_comes_71 : decode cX6_comes 71 = .ok (.aload_n 0, 1) := by decide +kernel
theorem dX6_comes_72 : decode cX6_comes 72 = .ok (.getfield 51, 3) := by decide +kernel
theorem dX6_comes_75 : decode cX6_comes 75 = .ok (.invokevirtual 158, 3) := by decide +kernel
theorem dX6_comes_78 : decode cX6_comes 78 = .ok (.aload_n 0, 1) := by decide +kernel
theorem dX6_comes_79 : decode cX6_comes 79 = .ok (.getfield 51, 3) := by decide +kernel
theorem dX6_comes_82 : decode cX6_comes 82 = .ok (.invokevirtual 162, 3) := by decide +kernel
theorem dX6_comes_85 : decode cX6_comes 85 = .ok (.invokevirtual 165, 3) := by decide +kernel
theorem dX6_comes_88 : decode cX6_comes 88 = .ok (.aload_n 0, 1) := by decide +kernel
theorem dX6_comes_89 : decode cX6_comes 89 = .ok (.getfield 58, 3) := by decide +kernel
theorem dX6_comes_92 : decode cX6_comes 92 = .ok (.iload 5, 2) := by decide +kernel
theorem dX6_comes_94 : decode cX6_comes 94 = .ok (.invokevirtual 168, 3) := by decide +kernel
theorem dX6_comes_97 : decode cX6_comes 97 = .ok (.lreturn, 1) := by decide +kernel
theorem dX6_yes_0 : decode cX6_yes 0 = .ok (.aload_n 0, 1) := by decide +kernel
theorem dX6_yes_1 : decode cX6_yes 1 = .ok (.iload_n 1, 1) := by decide +kernel
theorem dX6_yes_2 : decode cX6_yes 2 = .ok (.iload_n 2, 1) := by decide +kernel
theorem dX6_yes_3 : decode cX6_yes 3 = .ok (.invokevirtual 172, 3) := by decide +kernel
theorem dX6_yes_6 : decode cX6_yes 6 = .ok (.istore_n 3, 1) := by decide +kernel
theorem dX6_yes_7 : decode cX6_yes 7 = .ok (.iload_n 3, 1) := by decide +kernel
theorem dX6_yes_8 : decode cX6_yes 8 = .ok (.ifCond .eq 10, 3) := by decide +kernel
theorem dX6_yes_11 : decode cX6_yes 11 = .ok (.ldc2_w 175, 3) := by decide +kernel
theorem dX6_yes_14 : decode cX6_yes 14 = .ok (.iload_n 3, 1) := by decide +kernel
theorem dX6_yes_15 : decode cX6_yes 15 = .ok (.i2l, 1) := by decide +kernel
theorem dX6_yes_16 : decode cX6_yes 16 = .ok (.ladd, 1) := by decide +kernel
theorem dX6_yes_17 : decode cX6_yes 17 = .ok (.lreturn, 1) := by decide +kernel
theorem dX6_yes_18 : decode cX6_yes 18 = .ok (.aload_n 0, 1) := by decide +kernel
theorem dX6_yes_19 : decode cX6_yes 19 = .ok (.invokevirtual 177, 3) := by decide +kernel
theorem dX6_yes_22 : decode cX6_yes 22 = .ok (.aload_n 0, 1) := by decide +kernel
theorem dX6_yes_23 : decode cX6_yes 23 = .ok (.getfield 58, 3) := by decide +kernel
theorem dX6_yes_26 : decode cX6_yes 26 = .ok (.aload_n 0, 1) := by decide +kernel
theorem dX6_yes_27 : decode cX6_yes 27 = .ok (.iload_n 1, 1) := by decide +kernel
theorem dX6_yes_28 : decode cX6_yes 28 = .ok (.invokevirtual 180, 3) := by decide +kernel
theorem dX6_yes_31 : decode cX6_yes 31 = .ok (.aload_n 0, 1) := by decide +kernel
theorem dX6_yes_32 : decode cX6_yes 32 = .ok (.getfield 44, 3) := by decide +kernel
theorem dX6_yes_35 : decode cX6_yes 35 = .ok (.aload_n 0, 1) := by decide +kernel
theorem dX6_yes_36 : decode cX6_yes 36 = .ok (.getfield 34, 3) := by decide +kernel
theorem dX6_yes_39 : decode cX6_yes 39 = .ok (.getfield 118, 3) := by decide +kernel
theorem dX6_yes_42 : decode cX6_yes 42 = .ok (.iload_n 1, 1) := by decide +kernel
theorem dX6_yes_43 : decode cX6_yes 43 = .ok (.invokevirtual 183, 3) := by decide +kernel
theorem dX6_yes_46 : decode cX6_yes 46 = .ok (.invokevirtual 165, 3) := by decide +kernel
theorem dX6_yes_49 : decode cX6_yes 49 = .ok (.aload_n 0, 1) := by decide +kernel
theorem dX6_yes_50 : decode cX6_yes 50 = .ok (.getfield 58, 3) := by decide +kernel
theorem dX6_yes_53 : decode cX6_yes 53 = .ok (.iload_n 2, 1) := by decide +kernel
theorem dX6_yes_54 : decode cX6_yes 54 = .ok (.invokevirtual 168, 3) := by decide +kernel
theorem dX6_yes_57 : decode cX6_yes 57 = .ok (.lreturn, 1) := by decide +kernel
theorem dX6_bySheets_0 : decode cX6_bySheets 0 = .ok (.aload_n 0, 1) := by decide +kernel
theorem dX6_bySheets_1 : decode cX6_bySheets 1 = .ok (.invokevirtual 115, 3) := by decide +kernel
theorem dX6_bySheets_4 : decode cX6_bySheets 4 = .ok (.aload_n 0, 1) := by decide +kernel
theorem dX6_bySheets_5 : decode cX6_bySheets 5 = .ok (.invokevirtual 187, 3) := by decide +kernel
theorem dX6_bySheets_8 : decode cX6_bySheets 8 = .ok (.istore_n 3, 1) := by decide +kernel
theorem dX6_bySheets_9 : decode cX6_bySheets 9 = .ok (.iload_n 3, 1) := by decide +kernel
theorem dX6_bySheets_10 : decode cX6_bySheets 10 = .ok (.invokestatic 190, 3) := by decide +kernel
theorem dX6_bySheets_13 : decode cX6_bySheets 13 = .ok (.istore 4, 2) := by decide +kernel
theorem dX6_bySheets_15 : decode cX6_bySheets 15 = .ok (.iload_n 1, 1) := by decide +kernel
theorem dX6_bySheets_16 : decode cX6_bySheets 16 = .ok (.iconst 1, 1) := by decide +kernel
theorem dX6_bySheets_17 : decode cX6_bySheets 17 = .ok (.iload 4, 2) := by decide +kernel
theorem dX6_bySheets_19 : decode cX6_bySheets 19 = .ok (.invokestatic 69, 3) := by decide +kernel
theorem dX6_bySheets_22 : decode cX6_bySheets 22 = .ok (.ifCond .eq 10, 3) := by decide +kernel
theorem dX6_bySheets_25 : decode cX6_bySheets 25 = .ok (.iload_n 2, 1) := by decide +kernel
theorem dX6_bySheets_26 : decode cX6_bySheets 26 = .ok (.invokestatic 147, 3) := by decide +kernel
theorem dX6_bySheets_29 : decode cX6_bySheets 29 = .ok (.ifCond .ne 7, 3) := by decide +kernel
theorem dX6_bySheets_32 : decode cX6_bySheets 32 = .ok (.ldc2_w 150, 3) := by decide +kernel
theorem dX6_bySheets_35 : decode cX6_bySheets 35 = .ok (.lreturn, 1) := by decide +kernel
theorem dX6_bySheets_36 : decode cX6_bySheets 36 = .ok (.aload_n 0, 1) := by decide +kernel
theorem dX6_bySheets_37 : decode cX6_bySheets 37 = .ok (.getfield 34, 3) := by decide +kernel
theorem dX6_bySheets_40 : decode cX6_bySheets 40 = .ok (.getfield 124, 3) := by decide +kernel
theorem dX6_bySheets_43 : decode cX6_bySheets 43 = .ok (.ifCond .eq 7, 3) := by decide +kernel
theorem dX6_bySheets_46 : decode cX6_bySheets 46 = .ok (.ldc2_w 195, 3) := by decide +kernel
theorem dX6_bySheets_49 : decode cX6_bySheets 49 = .ok (.lreturn, 1) := by decide +kernel
theorem dX6_bySheets_50 : decode cX6_bySheets 50 = .ok (.aload_n 0, 1) := by decide +kernel
theorem dX6_bySheets_51 : decode cX6_bySheets 51 = .ok (.getfield 58, 3) := by decide +kernel
theorem dX6_bySheets_54 : decode cX6_bySheets 54 = .ok (.aload_n 0, 1) := by decide +kernel
theorem dX6_bySheets_55 : decode cX6_bySheets 55 = .ok (.iload_n 3, 1) := by decide +kernel
theorem dX6_bySheets_56 : decode cX6_bySheets 56 = .ok (.iload_n 1, 1) := by decide +kernel
theorem dX6_bySheets_57 : decode cX6_bySheets 57 = .ok (.invokevirtual 197, 3) := by decide +kernel
theorem dX6_bySheets_60 : decode cX6_bySheets 60 = .ok (.i2l, 1) := by decide +kernel
theorem dX6_bySheets_61 : decode cX6_bySheets 61 = .ok (.aload_n 0, 1) := by decide +kernel
theorem dX6_bySheets_62 : decode cX6_bySheets 62 = .ok (.getfield 44, 3) := by decide +kernel
theorem dX6_bySheets_65 : decode cX6_bySheets 65 = .ok (.iload 4, 2) := by decide +kernel
theorem dX6_bySheets_67 : decode cX6_bySheets 67 = .ok (.iload_n 1, 1) := by decide +kernel
theorem dX6_bySheets_68 : decode cX6_bySheets 68 = .ok (.invokevirtual 183, 3) := by decide +kernel
theorem dX6_bySheets_71 : decode cX6_bySheets 71 = .ok (.invokevirtual 165, 3) := by decide +kernel
theorem dX6_bySheets_74 : decode cX6_bySheets 74 = .ok (.aload_n 0, 1) := by decide +kernel
theorem dX6_bySheets_75 : decode cX6_bySheets 75 = .ok (.getfield 58, 3) := by decide +kernel
theorem dX6_bySheets_78 : decode cX6_bySheets 78 = .ok (.iload_n 2, 1) := by decide +kernel
theorem dX6_bySheets_79 : decode cX6_bySheets 79 = .ok (.invokevirtual 168, 3) := by decide +kernel
theorem dX6_bySheets_82 : decode cX6_bySheets 82 = .ok (.lreturn, 1) := by decide +kernel
theorem dX6_wrong_0 : decode cX6_wrong 0 = .ok (.aload_n 0, 1) := by decide +kernel
theorem dX6_wrong_1 : decode cX6_wrong 1 = .ok (.iload_n 1, 1) := by decide +kernel
theorem dX6_wrong_2 : decode cX6_wrong 2 = .ok (.iload_n 2, 1) := by decide +kernel
theorem dX6_wrong_3 : decode cX6_wrong 3 = .ok (.invokevirtual 172, 3) := by decide +kernel
theorem dX6_wrong_6 : decode cX6_wrong 6 = .ok (.istore_n 3, 1) := by decide +kernel
theorem dX6_wrong_7 : decode cX6_wrong 7 = .ok (.iload_n 3, 1) := by decide +kernel
theorem dX6_wrong_8 : decode cX6_wrong 8 = .ok (.ifCond .eq 10, 3) := by decide +kernel
theorem dX6_wrong_11 : decode cX6_wrong 11 = .ok (.ldc2_w 175, 3) := by decide +kernel
theorem dX6_wrong_14 : decode cX6_wrong 14 = .ok (.iload_n 3, 1) := by decide +kernel
theorem dX6_wrong_15 : decode cX6_wrong 15 = .ok (.i2l, 1) := by decide +kernel
theorem dX6_wrong_16 : decode cX6_wrong 16 = .ok (.ladd, 1) := by decide +kernel
theorem dX6_wrong_17 : decode cX6_wrong 17 = .ok (.lreturn, 1) := by decide +kernel
theorem dX6_wrong_18 : decode cX6_wrong 18 = .ok (.aload_n 0, 1) := by decide +kernel
theorem dX6_wrong_19 : decode cX6_wrong 19 = .ok (.invokevirtual 177, 3) := by decide +kernel
theorem dX6_wrong_22 : decode cX6_wrong 22 = .ok (.aload_n 0, 1) := by decide +kernel
theorem dX6_wrong_23 : decode cX6_wrong 23 = .ok (.getfield 58, 3) := by decide +kernel
theorem dX6_wrong_26 : decode cX6_wrong 26 = .ok (.aload_n 0, 1) := by decide +kernel
theorem dX6_wrong_27 : decode cX6_wrong 27 = .ok (.iload_n 1, 1) := by decide +kernel
theorem dX6_wrong_28 : decode cX6_wrong 28 = .ok (.invokevirtual 200, 3) := by decide +kernel
theorem dX6_wrong_31 : decode cX6_wrong 31 = .ok (.aload_n 0, 1) := by decide +kernel
theorem dX6_wrong_32 : decode cX6_wrong 32 = .ok (.getfield 44, 3) := by decide +kernel
theorem dX6_wrong_35 : decode cX6_wrong 35 = .ok (.aload_n 0, 1) := by decide +kernel
theorem dX6_wrong_36 : decode cX6_wrong 36 = .ok (.getfield 34, 3) := by decide +kernel
theorem dX6_wrong_39 : decode cX6_wrong 39 = .ok (.getfield 118, 3) := by decide +kernel
theorem dX6_wrong_42 : decode cX6_wrong 42 = .ok (.iload_n 1, 1) := by decide +kernel
theorem dX6_wrong_43 : decode cX6_wrong 43 = .ok (.invokevirtual 183, 3) := by decide +kernel
theorem dX6_wrong_46 : decode cX6_wrong 46 = .ok (.invokevirtual 165, 3) := by decide +kernel
theorem dX6_wrong_49 : decode cX6_wrong 49 = .ok (.aload_n 0, 1) := by decide +kernel
theorem dX6_wrong_50 : decode cX6_wrong 50 = .ok (.getfield 58, 3) := by decide +kernel
theorem dX6_wrong_53 : decode cX6_wrong 53 = .ok (.iload_n 2, 1) := by decide +kernel
theorem dX6_wrong_54 : decode cX6_wrong 54 = .ok (.invokevirtual 168, 3) := by decide +kernel
theorem dX6_wrong_57 : decode cX6_wrong 57 = .ok (.lreturn, 1) := by decide +kernel
theorem dX6_enough_0 : decode cX6_enough 0 = .ok (.iload_n 1, 1) := by decide +kernel
theorem dX6_enough_1 : decode cX6_enough 1 = .ok (.iconst 0, 1) := by decide +kernel
theorem dX6_enough_2 : decode cX6_enough 2 = .ok (.sipush 1000, 3) := by decide +kernel
theorem dX6_enough_5 : decode cX6_enough 5 = .ok (.invokestatic 69, 3) := by decide +kernel
theorem dX6_enough_8 : decode cX6_enough 8 = .ok (.ifCond .ne 6, 3) := by decide +kernel
theorem dX6_enough_11 : decode cX6_enough 11 = .ok (.bipush (-2), 2) := by decide +kernel
theorem dX6_enough_13 : decode cX6_enough 13 = .ok (.ireturn, 1) := by decide +kernel
theorem dX6_enough_14 : decode cX6_enough 14 = .ok (.aload_n 0, 1) := by decide +kernel
theorem dX6_enough_15 : decode cX6_enough 15 = .ok (.invokevirtual 115, 3) := by decide +kernel
theorem dX6_enough_18 : decode cX6_enough 18 = .ok (.aload_n 0, 1) := by decide +kernel
theorem dX6_enough_19 : decode cX6_enough 19 = .ok (.getfield 34, 3) := by decide +kernel
theorem dX6_enough_22 : decode cX6_enough 22 = .ok (.getfield 124, 3) := by decide +kernel
theorem dX6_enough_25 : decode cX6_enough 25 = .ok (.ifCond .ne 13, 3) := by decide +kernel
theorem dX6_enough_28 : decode cX6_enough 28 = .ok (.aload_n 0, 1) := by decide +kernel
theorem dX6_enough_29 : decode cX6_enough 29 = .ok (.getfield 34, 3) := by decide +kernel
theorem dX6_enough_32 : decode cX6_enough 32 = .ok (.getfield 118, 3) := by decide +kernel
theorem dX6_enough_35 : decode cX6_enough 35 = .ok (.ifCond .ne 6, 3) := by decide +kernel
theorem dX6_enough_38 : decode cX6_enough 38 = .ok (.bipush (-3), 2) := by decide +kernel
theorem dX6_enough_40 : decode cX6_enough 40 = .ok (.ireturn, 1) := by decide +kernel
theorem dX6_enough_41 : decode cX6_enough 41 = .ok (.aload_n 0, 1) := by decide +kernel
theorem dX6_enough_42 : decode cX6_enough 42 = .ok (.invokevirtual 177, 3) := by decide +kernel
theorem dX6_enough_45 : decode cX6_enough 45 = .ok (.iconst 1, 1) := by decide +kernel
theorem dX6_enough_46 : decode cX6_enough 46 = .ok (.istore_n 2, 1) := by decide +kernel
theorem dX6_enough_47 : decode cX6_enough 47 = .ok (.iload_n 2, 1) := by decide +kernel
theorem dX6_enough_48 : decode cX6_enough 48 = .ok (.aload_n 0, 1) := by decide +kernel
theorem dX6_enough_49 : decode cX6_enough 49 = .ok (.getfield 34, 3) := by decide +kernel
theorem dX6_enough_52 : decode cX6_enough 52 = .ok (.getfield 118, 3) := by decide +kernel
theorem dX6_enough_55 : decode cX6_enough 55 = .ok (.if_icmp .gt 39, 3) := by decide +kernel
theorem dX6_enough_58 : decode cX6_enough 58 = .ok (.aload_n 0, 1) := by decide +kernel
theorem dX6_enough_59 : decode cX6_enough 59 = .ok (.iload_n 2, 1) := by decide +kernel
theorem dX6_enough_60 : decode cX6_enough 60 = .ok (.invokevirtual 200, 3) := by decide +kernel
theorem dX6_enough_63 : decode cX6_enough 63 = .ok (.aload_n 0, 1) := by decide +kernel
theorem dX6_enough_64 : decode cX6_enough 64 = .ok (.getfield 44, 3) := by decide +kernel
theorem dX6_enough_67 : decode cX6_enough 67 = .ok (.aload_n 0, 1) := by decide +kernel
theorem dX6_enough_68 : decode cX6_enough 68 = .ok (.getfield 34, 3) := by decide +kernel
theorem dX6_enough_71 : decode cX6_enough 71 = .ok (.getfield 118, 3) := by decide +kernel
theorem dX6_enough_74 : decode cX6_enough 74 = .ok (.iload_n 2, 1) := by decide +kernel
theorem dX6_enough_75 : decode cX6_enough 75 = .ok (.invokevirtual 183, 3) := by decide +kernel
theorem dX6_enough_78 : decode cX6_enough 78 = .ok (.iload_n 1, 1) := by decide +kernel
theorem dX6_enough_79 : decode cX6_enough 79 = .ok (.invokestatic 203, 3) := by decide +kernel
theorem dX6_enough_82 : decode cX6_enough 82 = .ok (.lcmp, 1) := by decide +kernel
theorem dX6_enough_83 : decode cX6_enough 83 = .ok (.ifCond .gt 5, 3) := by decide +kernel
theorem dX6_enough_86 : decode cX6_enough 86 = .ok (.iload_n 2, 1) := by decide +kernel
theorem dX6_enough_87 : decode cX6_enough 87 = .ok (.ireturn, 1) := by decide +kernel
theorem dX6_enough_88 : decode cX6_enough 88 = .ok (.iinc 2 1, 3) := by decide +kernel
theorem dX6_enough_91 : decode cX6_enough 91 = .ok (.goto (-44), 3) := by decide +kernel
theorem dX6_enough_94 : decode cX6_enough 94 = .ok (.bipush (-6), 2) := by decide +kernel
theorem dX6_enough_96 : decode cX6_enough 96 = .ok (.ireturn, 1) := by decide +kernel
theorem dX6_worth_0 : decode cX6_worth 0 = .ok (.aload_n 0, 1) := by decide +kernel
theorem dX6_worth_1 : decode cX6_worth 1 = .ok (.invokevirtual 115, 3) := by decide +kernel
theorem dX6_worth_4 : decode cX6_worth 4 = .ok (.iload_n 1, 1) := by decide +kernel
theorem dX6_worth_5 : decode cX6_worth 5 = .ok (.iconst 1, 1) := by decide +kernel
theorem dX6_worth_6 : decode cX6_worth 6 = .ok (.aload_n 0, 1) := by decide +kernel
theorem dX6_worth_7 : decode cX6_worth 7 = .ok (.getfield 34, 3) := by decide +kernel
theorem dX6_worth_10 : decode cX6_worth 10 = .ok (.getfield 118, 3) := by decide +kernel
theorem dX6_worth_13 : decode cX6_worth 13 = .ok (.invokestatic 69, 3) := by decide +kernel
theorem dX6_worth_16 : decode cX6_worth 16 = .ok (.ifCond .eq 25, 3) := by decide +kernel
theorem dX6_worth_19 : decode cX6_worth 19 = .ok (.iload_n 2, 1) := by decide +kernel
theorem dX6_worth_20 : decode cX6_worth 20 = .ok (.invokestatic 144, 3) := by decide +kernel
theorem dX6_worth_23 : decode cX6_worth 23 = .ok (.ifCond .eq 18, 3) := by decide +kernel
theorem dX6_worth_26 : decode cX6_worth 26 = .ok (.iload_n 3, 1) := by decide +kernel
theorem dX6_worth_27 : decode cX6_worth 27 = .ok (.invokestatic 144, 3) := by decide +kernel
theorem dX6_worth_30 : decode cX6_worth 30 = .ok (.ifCond .eq 11, 3) := by decide +kernel
theorem dX6_worth_33 : decode cX6_worth 33 = .ok (.iload 4, 2) := by decide +kernel
theorem dX6_worth_35 : decode cX6_worth 35 = .ok (.invokestatic 147, 3) := by decide +kernel
theorem dX6_worth_38 : decode cX6_worth 38 = .ok (.ifCond .ne 7, 3) := by decide +kernel
theorem dX6_worth_41 : decode cX6_worth 41 = .ok (.ldc2_w 150, 3) := by decide +kernel
theorem dX6_worth_44 : decode cX6_worth 44 = .ok (.lreturn, 1) := by decide +kernel
theorem dX6_worth_45 : decode cX6_worth 45 = .ok (.aload_n 0, 1) := by decide +kernel
theorem dX6_worth_46 : decode cX6_worth 46 = .ok (.getfield 51, 3) := by decide +kernel
theorem dX6_worth_49 : decode cX6_worth 49 = .ok (.aload_n 0, 1) := by decide +kernel
theorem dX6_worth_50 : decode cX6_worth 50 = .ok (.getfield 21, 3) := by decide +kernel
theorem dX6_worth_53 : decode cX6_worth 53 = .ok (.getfield 137, 3) := by decide +kernel
theorem dX6_worth_56 : decode cX6_worth 56 = .ok (.aload_n 0, 1) := by decide +kernel
theorem dX6_worth_57 : decode cX6_worth 57 = .ok (.getfield 34, 3) := by decide +kernel
theorem dX6_worth_60 : decode cX6_worth 60 = .ok (.getfield 118, 3) := by decide +kernel
theorem dX6_worth_63 : decode cX6_worth 63 = .ok (.iload_n 1, 1) := by decide +kernel
theorem dX6_worth_64 : decode cX6_worth 64 = .ok (.iload_n 2, 1) := by decide +kernel
theorem dX6_worth_65 : decode cX6_worth 65 = .ok (.iload_n 3, 1) := by decide +kernel
theorem dX6_worth_66 : decode cX6_worth 66 = .ok (.invokevirtual 152, 3) := by decide +kernel
theorem dX6_worth_69 : decode cX6_worth 69 = .ok (.ifCond .ne 7, 3) := by decide +kernel
theorem dX6_worth_72 : decode cX6_worth 72 = .ok (.ldc2_w 156, 3) := by decide +kernel
theorem dX6_worth_75 : decode cX6_worth 75 = .ok (.lreturn, 1) := by decide +kernel
theorem dX6_worth_76 : decode cX6_worth 76 = .ok (.aload_n 0, 1) := by decide +kernel
theorem dX6_worth_77 : decode cX6_worth 77 = .ok (.getfield 58, 3) := by decide +kernel
theorem dX6_worth_80 : decode cX6_worth 80 = .ok (.aload_n 0, 1) := by decide +kernel
theorem dX6_worth_81 : decode cX6_worth 81 = .ok (.getfield 51, 3) := by decide +kernel
theorem dX6_worth_84 : decode cX6_worth 84 = .ok (.invokevirtual 158, 3) := by decide +kernel
theorem dX6_worth_87 : decode cX6_worth 87 = .ok (.aload_n 0, 1) := by decide +kernel
theorem dX6_worth_88 : decode cX6_worth 88 = .ok (.getfield 51, 3) := by decide +kernel
theorem dX6_worth_91 : decode cX6_worth 91 = .ok (.invokevirtual 162, 3) := by decide +kernel
theorem dX6_worth_94 : decode cX6_worth 94 = .ok (.invokevirtual 165, 3) := by decide +kernel
theorem dX6_worth_97 : decode cX6_worth 97 = .ok (.aload_n 0, 1) := by decide +kernel
theorem dX6_worth_98 : decode cX6_worth 98 = .ok (.getfield 51, 3) := by decide +kernel
theorem dX6_worth_101 : decode cX6_worth 101 = .ok (.aload_n 0, 1) := by decide +kernel
theorem dX6_worth_102 : decode cX6_worth 102 = .ok (.getfield 21, 3) := by decide +kernel
theorem dX6_worth_105 : decode cX6_worth 105 = .ok (.getfield 137, 3) := by decide +kernel
theorem dX6_worth_108 : decode cX6_worth 108 = .ok (.aload_n 0, 1) := by decide +kernel
theorem dX6_worth_109 : decode cX6_worth 109 = .ok (.getfield 34, 3) := by decide +kernel
theorem dX6_worth_112 : decode cX6_worth 112 = .ok (.getfield 118, 3) := by decide +kernel
theorem dX6_worth_115 : decode cX6_worth 115 = .ok (.iload_n 1, 1) := by decide +kernel
theorem dX6_worth_116 : decode cX6_worth 116 = .ok (.iload_n 2, 1) := by decide +kernel
theorem dX6_worth_117 : decode cX6_worth 117 = .ok (.iload_n 3, 1) := by decide +kernel
theorem dX6_worth_118 : decode cX6_worth 118 = .ok (.iconst 1, 1) := by decide +kernel
theorem dX6_worth_119 : decode cX6_worth 119 = .ok (.iadd, 1) := by decide +kernel
theorem dX6_worth_120 : decode cX6_worth 120 = .ok (.invokevirtual 152, 3) := by decide +kernel
theorem dX6_worth_123 : decode cX6_worth 123 = .ok (.ifCond .ne 7, 3) := by decide +kernel
theorem dX6_worth_126 : decode cX6_worth 126 = .ok (.ldc2_w 156, 3) := by decide +kernel
theorem dX6_worth_129 : decode cX6_worth 129 = .ok (.lreturn, 1) := by decide +kernel
theorem dX6_worth_130 : decode cX6_worth 130 = .ok (.aload_n 0, 1) := by decide +kernel
theorem dX6_worth_131 : decode cX6_worth 131 = .ok (.getfield 62, 3) := by decide +kernel
theorem dX6_worth_134 : decode cX6_worth 134 = .ok (.aload_n 0, 1) := by decide +kernel
theorem dX6_worth_135 : decode cX6_worth 135 = .ok (.getfield 51, 3) := by decide +kernel
theorem dX6_worth_138 : decode cX6_worth 138 = .ok (.invokevirtual 158, 3) := by decide +kernel
theorem dX6_worth_141 : decode cX6_worth 141 = .ok (.aload_n 0, 1) := by decide +kernel
theorem dX6_worth_142 : decode cX6_worth 142 = .ok (.getfield 51, 3) := by decide +kernel
theorem dX6_worth_145 : decode cX6_worth 145 = .ok (.invokevirtual 162, 3) := by decide +kernel
theorem dX6_worth_148 : decode cX6_worth 148 = .ok (.invokevirtual 165, 3) := by decide +kernel
theorem dX6_worth_151 : decode cX6_worth 151 = .ok (.aload_n 0, 1) := by decide +kernel
theorem dX6_worth_152 : decode cX6_worth 152 = .ok (.getfield 58, 3) := by decide +kernel
theorem dX6_worth_155 : decode cX6_worth 155 = .ok (.aload_n 0, 1) := by decide +kernel
theorem dX6_worth_156 : decode cX6_worth 156 = .ok (.getfield 62, 3) := by decide +kernel
theorem dX6_worth_159 : decode cX6_worth 159 = .ok (.invokevirtual 207, 3) := by decide +kernel
theorem dX6_worth_162 : decode cX6_worth 162 = .ok (.aload_n 0, 1) := by decide +kernel
theorem dX6_worth_163 : decode cX6_worth 163 = .ok (.getfield 58, 3) := by decide +kernel
theorem dX6_worth_166 : decode cX6_worth 166 = .ok (.iload 4, 2) := by decide +kernel
theorem dX6_worth_168 : decode cX6_worth 168 = .ok (.invokevirtual 168, 3) := by decide +kernel
theorem dX6_worth_171 : decode cX6_worth 171 = .ok (.lreturn, 1) := by decide +kernel
theorem dX6_gatherer_0 : decode cX6_gatherer 0 = .ok (.iload_n 1, 1) := by decide +kernel
theorem dX6_gatherer_1 : decode cX6_gatherer 1 = .ok (.invokestatic 211, 3) := by decide +kernel
theorem dX6_gatherer_4 : decode cX6_gatherer 4 = .ok (.ifCond .ne 5, 3) := by decide +kernel
theorem dX6_gatherer_7 : decode cX6_gatherer 7 = .ok (.iconst (-1), 1) := by decide +kernel
theorem dX6_gatherer_8 : decode cX6_gatherer 8 = .ok (.ireturn, 1) := by decide +kernel
theorem dX6_gatherer_9 : decode cX6_gatherer 9 = .ok (.iload_n 2, 1) := by decide +kernel
theorem dX6_gatherer_10 : decode cX6_gatherer 10 = .ok (.iconst 0, 1) := by decide +kernel
theorem dX6_gatherer_11 : decode cX6_gatherer 11 = .ok (.iconst 1, 1) := by decide +kernel
theorem dX6_gatherer_12 : decode cX6_gatherer 12 = .ok (.invokestatic 69, 3) := by decide +kernel
theorem dX6_gatherer_15 : decode cX6_gatherer 15 = .ok (.ifCond .ne 6, 3) := by decide +kernel
theorem dX6_gatherer_18 : decode cX6_gatherer 18 = .ok (.bipush (-2), 2) := by decide +kernel
theorem dX6_gatherer_20 : decode cX6_gatherer 20 = .ok (.ireturn, 1) := by decide +kernel
theorem dX6_gatherer_21 : decode cX6_gatherer 21 = .ok (.aload_n 0, 1) := by decide +kernel
theorem dX6_gatherer_22 : decode cX6_gatherer 22 = .ok (.getfield 38, 3) := by decide +kernel
theorem dX6_gatherer_25 : decode cX6_gatherer 25 = .ok (.aload_n 0, 1) := by decide +kernel
theorem dX6_gatherer_26 : decode cX6_gatherer 26 = .ok (.getfield 21, 3) := by decide +kernel
theorem dX6_gatherer_29 : decode cX6_gatherer 29 = .ok (.aload_n 0, 1) := by decide +kernel
theorem dX6_gatherer_30 : decode cX6_gatherer 30 = .ok (.iload_n 1, 1) := by decide +kernel
theorem dX6_gatherer_31 : decode cX6_gatherer 31 = .ok (.invokevirtual 214, 3) := by decide +kernel
theorem dX6_gatherer_34 : decode cX6_gatherer 34 = .ok (.invokevirtual 217, 3) := by decide +kernel
theorem dX6_gatherer_37 : decode cX6_gatherer 37 = .ok (.iload_n 2, 1) := by decide +kernel
theorem dX6_gatherer_38 : decode cX6_gatherer 38 = .ok (.ifCond .ne 13, 3) := by decide +kernel
theorem dX6_gatherer_41 : decode cX6_gatherer 41 = .ok (.aload_n 0, 1) := by decide +kernel
theorem dX6_gatherer_42 : decode cX6_gatherer 42 = .ok (.getfield 38, 3) := by decide +kernel
theorem dX6_gatherer_45 : decode cX6_gatherer 45 = .ok (.getfield 118, 3) := by decide +kernel
theorem dX6_gatherer_48 : decode cX6_gatherer 48 = .ok (.goto 10, 3) := by decide +kernel
theorem dX6_gatherer_51 : decode cX6_gatherer 51 = .ok (.aload_n 0, 1) := by decide +kernel
theorem dX6_gatherer_52 : decode cX6_gatherer 52 = .ok (.getfield 38, 3) := by decide +kernel
theorem dX6_gatherer_55 : decode cX6_gatherer 55 = .ok (.getfield 121, 3) := by decide +kernel
theorem dX6_gatherer_58 : decode cX6_gatherer 58 = .ok (.ireturn, 1) := by decide +kernel
theorem dX6_seems_0 : decode cX6_seems 0 = .ok (.iload_n 1, 1) := by decide +kernel
theorem dX6_seems_1 : decode cX6_seems 1 = .ok (.invokestatic 211, 3) := by decide +kernel
theorem dX6_seems_4 : decode cX6_seems 4 = .ok (.ifCond .ne 7, 3) := by decide +kernel
theorem dX6_seems_7 : decode cX6_seems 7 = .ok (.ldc2_w 221, 3) := by decide +kernel
theorem dX6_seems_10 : decode cX6_seems 10 = .ok (.lreturn, 1) := by decide +kernel
theorem dX6_seems_11 : decode cX6_seems 11 = .ok (.iload_n 2, 1) := by decide +kernel
theorem dX6_seems_12 : decode cX6_seems 12 = .ok (.invokestatic 147, 3) := by decide +kernel
theorem dX6_seems_15 : decode cX6_seems 15 = .ok (.ifCond .ne 7, 3) := by decide +kernel
theorem dX6_seems_18 : decode cX6_seems 18 = .ok (.ldc2_w 150, 3) := by decide +kernel
theorem dX6_seems_21 : decode cX6_seems 21 = .ok (.lreturn, 1) := by decide +kernel
theorem dX6_seems_22 : decode cX6_seems 22 = .ok (.aload_n 0, 1) := by decide +kernel
theorem dX6_seems_23 : decode cX6_seems 23 = .ok (.invokevirtual 115, 3) := by decide +kernel
theorem dX6_seems_26 : decode cX6_seems 26 = .ok (.aload_n 0, 1) := by decide +kernel
theorem dX6_seems_27 : decode cX6_seems 27 = .ok (.iload_n 1, 1) := by decide +kernel
theorem dX6_seems_28 : decode cX6_seems 28 = .ok (.aload_n 0, 1) := by decide +kernel
theorem dX6_seems_29 : decode cX6_seems 29 = .ok (.getfield 58, 3) := by decide +kernel
theorem dX6_seems_32 : decode cX6_seems 32 = .ok (.invokevirtual 223, 3) := by decide +kernel
theorem dX6_seems_35 : decode cX6_seems 35 = .ok (.aload_n 0, 1) := by decide +kernel
theorem dX6_seems_36 : decode cX6_seems 36 = .ok (.getfield 58, 3) := by decide +kernel
theorem dX6_seems_39 : decode cX6_seems 39 = .ok (.iload_n 2, 1) := by decide +kernel
theorem dX6_seems_40 : decode cX6_seems 40 = .ok (.invokevirtual 168, 3) := by decide +kernel
theorem dX6_seems_43 : decode cX6_seems 43 = .ok (.lreturn, 1) := by decide +kernel
theorem dX6_suspect_0 : decode cX6_suspect 0 = .ok (.aload_n 0, 1) := by decide +kernel
theorem dX6_suspect_1 : decode cX6_suspect 1 = .ok (.invokevirtual 115, 3) := by decide +kernel
theorem dX6_suspect_4 : decode cX6_suspect 4 = .ok (.bipush (-6), 2) := by decide +kernel
theorem dX6_suspect_6 : decode cX6_suspect 6 = .ok (.istore_n 1, 1) := by decide +kernel
theorem dX6_suspect_7 : decode cX6_suspect 7 = .ok (.iconst 0, 1) := by decide +kernel
theorem dX6_suspect_8 : decode cX6_suspect 8 = .ok (.istore_n 2, 1) := by decide +kernel
theorem dX6_suspect_9 : decode cX6_suspect 9 = .ok (.iload_n 2, 1) := by decide +kernel
theorem dX6_suspect_10 : decode cX6_suspect 10 = .ok (.iconst 5, 1) := by decide +kernel
theorem dX6_suspect_11 : decode cX6_suspect 11 = .ok (.if_icmp .ge 72, 3) := by decide +kernel
theorem dX6_suspect_14 : decode cX6_suspect 14 = .ok (.aload_n 0, 1) := by decide +kernel
theorem dX6_suspect_15 : decode cX6_suspect 15 = .ok (.iload_n 2, 1) := by decide +kernel
theorem dX6_suspect_16 : decode cX6_suspect 16 = .ok (.invokevirtual 227, 3) := by decide +kernel
theorem dX6_suspect_19 : decode cX6_suspect 19 = .ok (.ifCond .ne 6, 3) := by decide +kernel
theorem dX6_suspect_22 : decode cX6_suspect 22 = .ok (.goto 55, 3) := by decide +kernel
theorem dX6_suspect_25 : decode cX6_suspect 25 = .ok (.aload_n 0, 1) := by decide +kernel
theorem dX6_suspect_26 : decode cX6_suspect 26 = .ok (.iload_n 2, 1) := by decide +kernel
theorem dX6_suspect_27 : decode cX6_suspect 27 = .ok (.aload_n 0, 1) := by decide +kernel
theorem dX6_suspect_28 : decode cX6_suspect 28 = .ok (.getfield 62, 3) := by decide +kernel
theorem dX6_suspect_31 : decode cX6_suspect 31 = .ok (.invokevirtual 223, 3) := by decide +kernel
theorem dX6_suspect_34 : decode cX6_suspect 34 = .ok (.iload_n 1, 1) := by decide +kernel
theorem dX6_suspect_35 : decode cX6_suspect 35 = .ok (.bipush (-6), 2) := by decide +kernel
theorem dX6_suspect_37 : decode cX6_suspect 37 = .ok (.if_icmp .eq 17, 3) := by decide +kernel
theorem dX6_suspect_40 : decode cX6_suspect 40 = .ok (.aload_n 0, 1) := by decide +kernel
theorem dX6_suspect_41 : decode cX6_suspect 41 = .ok (.getfield 62, 3) := by decide +kernel
theorem dX6_suspect_44 : decode cX6_suspect 44 = .ok (.aload_n 0, 1) := by decide +kernel
theorem dX6_suspect_45 : decode cX6_suspect 45 = .ok (.getfield 58, 3) := by decide +kernel
theorem dX6_suspect_48 : decode cX6_suspect 48 = .ok (.invokevirtual 230, 3) := by decide +kernel
theorem dX6_suspect_51 : decode cX6_suspect 51 = .ok (.ifCond .eq 26, 3) := by decide +kernel
theorem dX6_suspect_54 : decode cX6_suspect 54 = .ok (.iload_n 2, 1) := by decide +kernel
theorem dX6_suspect_55 : decode cX6_suspect 55 = .ok (.istore_n 1, 1) := by decide +kernel
theorem dX6_suspect_56 : decode cX6_suspect 56 = .ok (.aload_n 0, 1) := by decide +kernel
theorem dX6_suspect_57 : decode cX6_suspect 57 = .ok (.getfield 58, 3) := by decide +kernel
theorem dX6_suspect_60 : decode cX6_suspect 60 = .ok (.aload_n 0, 1) := by decide +kernel
theorem dX6_suspect_61 : decode cX6_suspect 61 = .ok (.getfield 62, 3) := by decide +kernel
theorem dX6_suspect_64 : decode cX6_suspect 64 = .ok (.getfield 234, 3) := by decide +kernel
theorem dX6_suspect_67 : decode cX6_suspect 67 = .ok (.aload_n 0, 1) := by decide +kernel
theorem dX6_suspect_68 : decode cX6_suspect 68 = .ok (.getfield 62, 3) := by decide +kernel
theorem dX6_suspect_71 : decode cX6_suspect 71 = .ok (.getfield 237, 3) := by decide +kernel
theorem dX6_suspect_74 : decode cX6_suspect 74 = .ok (.invokevirtual 165, 3) := by decide +kernel
theorem dX6_suspect_77 : decode cX6_suspect 77 = .ok (.iinc 2 1, 3) := by decide +kernel
theorem dX6_suspect_80 : decode cX6_suspect 80 = .ok (.goto (-71), 3) := by decide +kernel
theorem dX6_suspect_83 : decode cX6_suspect 83 = .ok (.iload_n 1, 1) := by decide +kernel
theorem dX6_suspect_84 : decode cX6_suspect 84 = .ok (.ireturn, 1) := by decide +kernel
theorem dX6_shared_0 : decode cX6_shared 0 = .ok (.iload_n 1, 1) := by decide +kernel
theorem dX6_shared_1 : decode cX6_shared 1 = .ok (.invokestatic 211, 3) := by decide +kernel
theorem dX6_shared_4 : decode cX6_shared 4 = .ok (.ifCond .ne 7, 3) := by decide +kernel
theorem dX6_shared_7 : decode cX6_shared 7 = .ok (.ldc2_w 221, 3) := by decide +kernel
theorem dX6_shared_10 : decode cX6_shared 10 = .ok (.lreturn, 1) := by decide +kernel
theorem dX6_shared_11 : decode cX6_shared 11 = .ok (.iload_n 2, 1) := by decide +kernel
theorem dX6_shared_12 : decode cX6_shared 12 = .ok (.invokestatic 147, 3) := by decide +kernel
theorem dX6_shared_15 : decode cX6_shared 15 = .ok (.ifCond .ne 7, 3) := by decide +kernel
theorem dX6_shared_18 : decode cX6_shared 18 = .ok (.ldc2_w 150, 3) := by decide +kernel
theorem dX6_shared_21 : decode cX6_shared 21 = .ok (.lreturn, 1) := by decide +kernel
theorem dX6_shared_22 : decode cX6_shared 22 = .ok (.aload_n 0, 1) := by decide +kernel
theorem dX6_shared_23 : decode cX6_shared 23 = .ok (.invokevirtual 115, 3) := by decide +kernel
theorem dX6_shared_26 : decode cX6_shared 26 = .ok (.aload_n 0, 1) := by decide +kernel
theorem dX6_shared_27 : decode cX6_shared 27 = .ok (.iload_n 1, 1) := by decide +kernel
theorem dX6_shared_28 : decode cX6_shared 28 = .ok (.aload_n 0, 1) := by decide +kernel
theorem dX6_shared_29 : decode cX6_shared 29 = .ok (.getfield 58, 3) := by decide +kernel
theorem dX6_shared_32 : decode cX6_shared 32 = .ok (.invokevirtual 223, 3) := by decide +kernel
theorem dX6_shared_35 : decode cX6_shared 35 = .ok (.aload_n 0, 1) := by decide +kernel
theorem dX6_shared_36 : decode cX6_shared 36 = .ok (.getfield 58, 3) := by decide +kernel
theorem dX6_shared_39 : decode cX6_shared 39 = .ok (.getfield 234, 3) := by decide +kernel
theorem dX6_shared_42 : decode cX6_shared 42 = .ok (.aload_n 0, 1) := by decide +kernel
theorem dX6_shared_43 : decode cX6_shared 43 = .ok (.invokevirtual 239, 3) := by decide +kernel
theorem dX6_shared_46 : decode cX6_shared 46 = .ok (.i2l, 1) := by decide +kernel
theorem dX6_shared_47 : decode cX6_shared 47 = .ok (.lmul, 1) := by decide +kernel
theorem dX6_shared_48 : decode cX6_shared 48 = .ok (.lstore_n 3, 1) := by decide +kernel
theorem dX6_shared_49 : decode cX6_shared 49 = .ok (.aload_n 0, 1) := by decide +kernel
theorem dX6_shared_50 : decode cX6_shared 50 = .ok (.getfield 58, 3) := by decide +kernel
theorem dX6_shared_53 : decode cX6_shared 53 = .ok (.lload_n 3, 1) := by decide +kernel
theorem dX6_shared_54 : decode cX6_shared 54 = .ok (.aload_n 0, 1) := by decide +kernel
theorem dX6_shared_55 : decode cX6_shared 55 = .ok (.getfield 58, 3) := by decide +kernel
theorem dX6_shared_58 : decode cX6_shared 58 = .ok (.getfield 237, 3) := by decide +kernel
theorem dX6_shared_61 : decode cX6_shared 61 = .ok (.invokestatic 242, 3) := by decide +kernel
theorem dX6_shared_64 : decode cX6_shared 64 = .ok (.aload_n 0, 1) := by decide +kernel
theorem dX6_shared_65 : decode cX6_shared 65 = .ok (.getfield 58, 3) := by decide +kernel
theorem dX6_shared_68 : decode cX6_shared 68 = .ok (.getfield 237, 3) := by decide +kernel
theorem dX6_shared_71 : decode cX6_shared 71 = .ok (.invokevirtual 165, 3) := by decide +kernel
theorem dX6_shared_74 : decode cX6_shared 74 = .ok (.aload_n 0, 1) := by decide +kernel
theorem dX6_shared_75 : decode cX6_shared 75 = .ok (.getfield 58, 3) := by decide +kernel
theorem dX6_shared_78 : decode cX6_shared 78 = .ok (.iload_n 2, 1) := by decide +kernel
theorem dX6_shared_79 : decode cX6_shared 79 = .ok (.invokevirtual 168, 3) := by decide +kernel
theorem dX6_shared_82 : decode cX6_shared 82 = .ok (.lreturn, 1) := by decide +kernel
theorem dX6_fine_0 : decode cX6_fine 0 = .ok (.iload_n 1, 1) := by decide +kernel
theorem dX6_fine_1 : decode cX6_fine 1 = .ok (.iconst 0, 1) := by decide +kernel
theorem dX6_fine_2 : decode cX6_fine 2 = .ok (.sipush 999, 3) := by decide +kernel
theorem dX6_fine_5 : decode cX6_fine 5 = .ok (.invokestatic 69, 3) := by decide +kernel
theorem dX6_fine_8 : decode cX6_fine 8 = .ok (.ifCond .eq 24, 3) := by decide +kernel
theorem dX6_fine_11 : decode cX6_fine 11 = .ok (.iload_n 2, 1) := by decide +kernel
theorem dX6_fine_12 : decode cX6_fine 12 = .ok (.iconst 0, 1) := by decide +kernel
theorem dX6_fine_13 : decode cX6_fine 13 = .ok (.bipush 10, 2) := by decide +kernel
theorem dX6_fine_15 : decode cX6_fine 15 = .ok (.invokestatic 69, 3) := by decide +kernel
theorem dX6_fine_18 : decode cX6_fine 18 = .ok (.ifCond .eq 14, 3) := by decide +kernel
theorem dX6_fine_21 : decode cX6_fine 21 = .ok (.iload_n 3, 1) := by decide +kernel
theorem dX6_fine_22 : decode cX6_fine 22 = .ok (.iconst 0, 1) := by decide +kernel
theorem dX6_fine_23 : decode cX6_fine 23 = .ok (.sipush 999, 3) := by decide +kernel
theorem dX6_fine_26 : decode cX6_fine 26 = .ok (.invokestatic 69, 3) := by decide +kernel
theorem dX6_fine_29 : decode cX6_fine 29 = .ok (.ifCond .ne 6, 3) := by decide +kernel
theorem dX6_fine_32 : decode cX6_fine 32 = .ok (.bipush (-2), 2) := by decide +kernel
theorem dX6_fine_34 : decode cX6_fine 34 = .ok (.ireturn, 1) := by decide +kernel
theorem dX6_fine_35 : decode cX6_fine 35 = .ok (.iload_n 2, 1) := by decide +kernel
theorem dX6_fine_36 : decode cX6_fine 36 = .ok (.ifCond .ne 14, 3) := by decide +kernel
theorem dX6_fine_39 : decode cX6_fine 39 = .ok (.iload_n 3, 1) := by decide +kernel
theorem dX6_fine_40 : decode cX6_fine 40 = .ok (.ifCond .ne 7, 3) := by decide +kernel
theorem dX6_fine_43 : decode cX6_fine 43 = .ok (.iconst 0, 1) := by decide +kernel
theorem dX6_fine_44 : decode cX6_fine 44 = .ok (.goto 5, 3) := by decide +kernel
theorem dX6_fine_47 : decode cX6_fine 47 = .ok (.bipush (-6), 2) := by decide +kernel
theorem dX6_fine_49 : decode cX6_fine 49 = .ok (.ireturn, 1) := by decide +kernel
theorem dX6_fine_50 : decode cX6_fine 50 = .ok (.iload_n 3, 1) := by decide +kernel
theorem dX6_fine_51 : decode cX6_fine 51 = .ok (.bipush 10, 2) := by decide +kernel
theorem dX6_fine_53 : decode cX6_fine 53 = .ok (.imul, 1) := by decide +kernel
theorem dX6_fine_54 : decode cX6_fine 54 = .ok (.iload_n 2, 1) := by decide +kernel
theorem dX6_fine_55 : decode cX6_fine 55 = .ok (.iadd, 1) := by decide +kernel
theorem dX6_fine_56 : decode cX6_fine 56 = .ok (.iconst 1, 1) := by decide +kernel
theorem dX6_fine_57 : decode cX6_fine 57 = .ok (.isub, 1) := by decide +kernel
theorem dX6_fine_58 : decode cX6_fine 58 = .ok (.iload_n 2, 1) := by decide +kernel
theorem dX6_fine_59 : decode cX6_fine 59 = .ok (.idiv, 1) := by decide +kernel
theorem dX6_fine_60 : decode cX6_fine 60 = .ok (.istore 4, 2) := by decide +kernel
theorem dX6_fine_62 : decode cX6_fine 62 = .ok (.iconst 0, 1) := by decide +kernel
theorem dX6_fine_63 : decode cX6_fine 63 = .ok (.iload 4, 2) := by decide +kernel
theorem dX6_fine_65 : decode cX6_fine 65 = .ok (.iload_n 1, 1) := by decide +kernel
theorem dX6_fine_66 : decode cX6_fine 66 = .ok (.isub, 1) := by decide +kernel
theorem dX6_fine_67 : decode cX6_fine 67 = .ok (.invokestatic 248, 3) := by decide +kernel
theorem dX6_fine_70 : decode cX6_fine 70 = .ok (.ireturn, 1) := by decide +kernel
theorem dX6_word_0 : decode cX6_word 0 = .ok (.iload_n 1, 1) := by decide +kernel
theorem dX6_word_1 : decode cX6_word 1 = .ok (.iconst 0, 1) := by decide +kernel
theorem dX6_word_2 : decode cX6_word 2 = .ok (.bipush 10, 2) := by decide +kernel
theorem dX6_word_4 : decode cX6_word 4 = .ok (.invokestatic 69, 3) := by decide +kernel
theorem dX6_word_7 : decode cX6_word 7 = .ok (.ifCond .eq 20, 3) := by decide +kernel
theorem dX6_word_10 : decode cX6_word 10 = .ok (.iload_n 2, 1) := by decide +kernel
theorem dX6_word_11 : decode cX6_word 11 = .ok (.iconst 0, 1) := by decide +kernel
theorem dX6_word_12 : decode cX6_word 12 = .ok (.bipush 10, 2) := by decide +kernel
theorem dX6_word_14 : decode cX6_word 14 = .ok (.invokestatic 69, 3) := by decide +kernel
theorem dX6_word_17 : decode cX6_word 17 = .ok (.ifCond .eq 10, 3) := by decide +kernel
theorem dX6_word_20 : decode cX6_word 20 = .ok (.iload_n 3, 1) := by decide +kernel
theorem dX6_word_21 : decode cX6_word 21 = .ok (.invokestatic 147, 3) := by decide +kernel
theorem dX6_word_24 : decode cX6_word 24 = .ok (.ifCond .ne 7, 3) := by decide +kernel
theorem dX6_word_27 : decode cX6_word 27 = .ok (.ldc2_w 150, 3) := by decide +kernel
theorem dX6_word_30 : decode cX6_word 30 = .ok (.lreturn, 1) := by decide +kernel
theorem dX6_word_31 : decode cX6_word 31 = .ok (.aload_n 0, 1) := by decide +kernel
theorem dX6_word_32 : decode cX6_word 32 = .ok (.invokevirtual 115, 3) := by decide +kernel
theorem dX6_word_35 : decode cX6_word 35 = .ok (.aload_n 0, 1) := by decide +kernel
theorem dX6_word_36 : decode cX6_word 36 = .ok (.getfield 34, 3) := by decide +kernel
theorem dX6_word_39 : decode cX6_word 39 = .ok (.getfield 118, 3) := by decide +kernel
theorem dX6_word_42 : decode cX6_word 42 = .ok (.ifCond .ne 7, 3) := by decide +kernel
theorem dX6_word_45 : decode cX6_word 45 = .ok (.ldc2_w 156, 3) := by decide +kernel
theorem dX6_word_48 : decode cX6_word 48 = .ok (.lreturn, 1) := by decide +kernel
theorem dX6_word_49 : decode cX6_word 49 = .ok (.aload_n 0, 1) := by decide +kernel
theorem dX6_word_50 : decode cX6_word 50 = .ok (.getfield 34, 3) := by decide +kernel
theorem dX6_word_53 : decode cX6_word 53 = .ok (.invokevirtual 251, 3) := by decide +kernel
theorem dX6_word_56 : decode cX6_word 56 = .ok (.i2l, 1) := by decide +kernel
theorem dX6_word_57 : decode cX6_word 57 = .ok (.iload_n 1, 1) := by decide +kernel
theorem dX6_word_58 : decode cX6_word 58 = .ok (.i2l, 1) := by decide +kernel
theorem dX6_word_59 : decode cX6_word 59 = .ok (.lmul, 1) := by decide +kernel
theorem dX6_word_60 : decode cX6_word 60 = .ok (.lstore 4, 2) := by decide +kernel
theorem dX6_word_62 : decode cX6_word 62 = .ok (.aload_n 0, 1) := by decide +kernel
theorem dX6_word_63 : decode cX6_word 63 = .ok (.getfield 58, 3) := by decide +kernel
theorem dX6_word_66 : decode cX6_word 66 = .ok (.lload 4, 2) := by decide +kernel
theorem dX6_word_68 : decode cX6_word 68 = .ok (.lload 4, 2) := by decide +kernel
theorem dX6_word_70 : decode cX6_word 70 = .ok (.aload_n 0, 1) := by decide +kernel
theorem dX6_word_71 : decode cX6_word 71 = .ok (.getfield 34, 3) := by decide +kernel
theorem dX6_word_74 : decode cX6_word 74 = .ok (.getfield 121, 3) := by decide +kernel
theorem dX6_word_77 : decode cX6_word 77 = .ok (.i2l, 1) := by decide +kernel
theorem dX6_word_78 : decode cX6_word 78 = .ok (.iload_n 2, 1) := by decide +kernel
theorem dX6_word_79 : decode cX6_word 79 = .ok (.i2l, 1) := by decide +kernel
theorem dX6_word_80 : decode cX6_word 80 = .ok (.lmul, 1) := by decide +kernel
theorem dX6_word_81 : decode cX6_word 81 = .ok (.ladd, 1) := by decide +kernel
theorem dX6_word_82 : decode cX6_word 82 = .ok (.invokevirtual 165, 3) := by decide +kernel
theorem dX6_word_85 : decode cX6_word 85 = .ok (.aload_n 0, 1) := by decide +kernel
theorem dX6_word_86 : decode cX6_word 86 = .ok (.getfield 58, 3) := by decide +kernel
theorem dX6_word_89 : decode cX6_word 89 = .ok (.iload_n 3, 1) := by decide +kernel
theorem dX6_word_90 : decode cX6_word 90 = .ok (.invokevirtual 168, 3) := by decide +kernel
theorem dX6_word_93 : decode cX6_word 93 = .ok (.lreturn, 1) := by decide +kernel
theorem dX6_strike_0 : decode cX6_strike 0 = .ok (.iload_n 1, 1) := by decide +kernel
theorem dX6_strike_1 : decode cX6_strike 1 = .ok (.invokestatic 91, 3) := by decide +kernel
theorem dX6_strike_4 : decode cX6_strike 4 = .ok (.ifCond .ne 5, 3) := by decide +kernel
theorem dX6_strike_7 : decode cX6_strike 7 = .ok (.iconst (-1), 1) := by decide +kernel
theorem dX6_strike_8 : decode cX6_strike 8 = .ok (.ireturn, 1) := by decide +kernel
theorem dX6_strike_9 : decode cX6_strike 9 = .ok (.aload_n 0, 1) := by decide +kernel
theorem dX6_strike_10 : decode cX6_strike 10 = .ok (.invokevirtual 115, 3) := by decide +kernel
theorem dX6_strike_13 : decode cX6_strike 13 = .ok (.aload_n 0, 1) := by decide +kernel
theorem dX6_strike_14 : decode cX6_strike 14 = .ok (.getfield 34, 3) := by decide +kernel
theorem dX6_strike_17 : decode cX6_strike 17 = .ok (.getfield 124, 3) := by decide +kernel
theorem dX6_strike_20 : decode cX6_strike 20 = .ok (.ifCond .ne 14, 3) := by decide +kernel
theorem dX6_strike_23 : decode cX6_strike 23 = .ok (.aload_n 0, 1) := by decide +kernel
theorem dX6_strike_24 : decode cX6_strike 24 = .ok (.getfield 21, 3) := by decide +kernel
theorem dX6_strike_27 : decode cX6_strike 27 = .ok (.iload_n 1, 1) := by decide +kernel
theorem dX6_strike_28 : decode cX6_strike 28 = .ok (.invokevirtual 254, 3) := by decide +kernel
theorem dX6_strike_31 : decode cX6_strike 31 = .ok (.ifCond .eq 6, 3) := by decide +kernel
theorem dX6_strike_34 : decode cX6_strike 34 = .ok (.bipush (-3), 2) := by decide +kernel
theorem dX6_strike_36 : decode cX6_strike 36 = .ok (.ireturn, 1) := by decide +kernel
theorem dX6_strike_37 : decode cX6_strike 37 = .ok (.aload_n 0, 1) := by decide +kernel
theorem dX6_strike_38 : decode cX6_strike 38 = .ok (.iload_n 1, 1) := by decide +kernel
theorem dX6_strike_39 : decode cX6_strike 39 = .ok (.invokevirtual 257, 3) := by decide +kernel
theorem dX6_strike_42 : decode cX6_strike 42 = .ok (.ireturn, 1) := by decide +kernel
theorem dX6_worst_0 : decode cX6_worst 0 = .ok (.aload_n 0, 1) := by decide +kernel
theorem dX6_worst_1 : decode cX6_worst 1 = .ok (.invokevirtual 115, 3) := by decide +kernel
theorem dX6_worst_4 : decode cX6_worst 4 = .ok (.aload_n 0, 1) := by decide +kernel
theorem dX6_worst_5 : decode cX6_worst 5 = .ok (.getfield 34, 3) := by decide +kernel
theorem dX6_worst_8 : decode cX6_worst 8 = .ok (.getfield 124, 3) := by decide +kernel
theorem dX6_worst_11 : decode cX6_worst 11 = .ok (.ifCond .eq 6, 3) := by decide +kernel
theorem dX6_worst_14 : decode cX6_worst 14 = .ok (.bipush (-3), 2) := by decide +kernel
theorem dX6_worst_16 : decode cX6_worst 16 = .ok (.ireturn, 1) := by decide +kernel
theorem dX6_worst_17 : decode cX6_worst 17 = .ok (.bipush (-6), 2) := by decide +kernel
theorem dX6_worst_19 : decode cX6_worst 19 = .ok (.istore_n 1, 1) := by decide +kernel
theorem dX6_worst_20 : decode cX6_worst 20 = .ok (.iconst (-1), 1) := by decide +kernel
theorem dX6_worst_21 : decode cX6_worst 21 = .ok (.istore_n 2, 1) := by decide +kernel
theorem dX6_worst_22 : decode cX6_worst 22 = .ok (.iconst 0, 1) := by decide +kernel
theorem dX6_worst_23 : decode cX6_worst 23 = .ok (.istore_n 3, 1) := by decide +kernel
theorem dX6_worst_24 : decode cX6_worst 24 = .ok (.iload_n 3, 1) := by decide +kernel
theorem dX6_worst_25 : decode cX6_worst 25 = .ok (.bipush 6, 2) := by decide +kernel
theorem dX6_worst_27 : decode cX6_worst 27 = .ok (.if_icmp .ge 42, 3) := by decide +kernel
theorem dX6_worst_30 : decode cX6_worst 30 = .ok (.aload_n 0, 1) := by decide +kernel
theorem dX6_worst_31 : decode cX6_worst 31 = .ok (.getfield 21, 3) := by decide +kernel
theorem dX6_worst_34 : decode cX6_worst 34 = .ok (.iload_n 3, 1) := by decide +kernel
theorem dX6_worst_35 : decode cX6_worst 35 = .ok (.invokevirtual 254, 3) := by decide +kernel
theorem dX6_worst_38 : decode cX6_worst 38 = .ok (.ifCond .eq 7, 3) := by decide +kernel
theorem dX6_worst_41 : decode cX6_worst 41 = .ok (.iconst (-1), 1) := by decide +kernel
theorem dX6_worst_42 : decode cX6_worst 42 = .ok (.goto 8, 3) := by decide +kernel
theorem dX6_worst_45 : decode cX6_worst 45 = .ok (.aload_n 0, 1) := by decide +kernel
theorem dX6_worst_46 : decode cX6_worst 46 = .ok (.iload_n 3, 1) := by decide +kernel
theorem dX6_worst_47 : decode cX6_worst 47 = .ok (.invokevirtual 257, 3) := by decide +kernel
theorem dX6_worst_50 : decode cX6_worst 50 = .ok (.istore 4, 2) := by decide +kernel
theorem dX6_worst_52 : decode cX6_worst 52 = .ok (.iload 4, 2) := by decide +kernel
theorem dX6_worst_54 : decode cX6_worst 54 = .ok (.iload_n 2, 1) := by decide +kernel
theorem dX6_worst_55 : decode cX6_worst 55 = .ok (.if_icmp .le 8, 3) := by decide +kernel
theorem dX6_worst_58 : decode cX6_worst 58 = .ok (.iload 4, 2) := by decide +kernel
theorem dX6_worst_60 : decode cX6_worst 60 = .ok (.istore_n 2, 1) := by decide +kernel
theorem dX6_worst_61 : decode cX6_worst 61 = .ok (.iload_n 3, 1) := by decide +kernel
theorem dX6_worst_62 : decode cX6_worst 62 = .ok (.istore_n 1, 1) := by decide +kernel
theorem dX6_worst_63 : decode cX6_worst 63 = .ok (.iinc 3 1, 3) := by decide +kernel
theorem dX6_worst_66 : decode cX6_worst 66 = .ok (.goto (-42), 3) := by decide +kernel
theorem dX6_worst_69 : decode cX6_worst 69 = .ok (.iload_n 1, 1) := by decide +kernel
theorem dX6_worst_70 : decode cX6_worst 70 = .ok (.ireturn, 1) := by decide +kernel
theorem dX6_against_0 : decode cX6_against 0 = .ok (.aload_n 0, 1) := by decide +kernel
theorem dX6_against_1 : decode cX6_against 1 = .ok (.invokevirtual 115, 3) := by decide +kernel
theorem dX6_against_4 : decode cX6_against 4 = .ok (.iload_n 1, 1) := by decide +kernel
theorem dX6_against_5 : decode cX6_against 5 = .ok (.iconst 0, 1) := by decide +kernel
theorem dX6_against_6 : decode cX6_against 6 = .ok (.iconst 1, 1) := by decide +kernel
theorem dX6_against_7 : decode cX6_against 7 = .ok (.invokestatic 69, 3) := by decide +kernel
theorem dX6_against_10 : decode cX6_against 10 = .ok (.ifCond .eq 18, 3) := by decide +kernel
theorem dX6_against_13 : decode cX6_against 13 = .ok (.iload_n 2, 1) := by decide +kernel
theorem dX6_against_14 : decode cX6_against 14 = .ok (.iconst 1, 1) := by decide +kernel
theorem dX6_against_15 : decode cX6_against 15 = .ok (.aload_n 0, 1) := by decide +kernel
theorem dX6_against_16 : decode cX6_against 16 = .ok (.getfield 34, 3) := by decide +kernel
theorem dX6_against_19 : decode cX6_against 19 = .ok (.getfield 118, 3) := by decide +kernel
theorem dX6_against_22 : decode cX6_against 22 = .ok (.invokestatic 69, 3) := by decide +kernel
theorem dX6_against_25 : decode cX6_against 25 = .ok (.ifCond .ne 6, 3) := by decide +kernel
theorem dX6_against_28 : decode cX6_against 28 = .ok (.bipush (-2), 2) := by decide +kernel
theorem dX6_against_30 : decode cX6_against 30 = .ok (.ireturn, 1) := by decide +kernel
theorem dX6_against_31 : decode cX6_against 31 = .ok (.aload_n 0, 1) := by decide +kernel
theorem dX6_against_32 : decode cX6_against 32 = .ok (.getfield 34, 3) := by decide +kernel
theorem dX6_against_35 : decode cX6_against 35 = .ok (.getfield 124, 3) := by decide +kernel
theorem dX6_against_38 : decode cX6_against 38 = .ok (.ifCond .eq 6, 3) := by decide +kernel
theorem dX6_against_41 : decode cX6_against 41 = .ok (.bipush (-3), 2) := by decide +kernel
theorem dX6_against_43 : decode cX6_against 43 = .ok (.ireturn, 1) := by decide +kernel
theorem dX6_against_44 : decode cX6_against 44 = .ok (.bipush 30, 2) := by decide +kernel
theorem dX6_against_46 : decode cX6_against 46 = .ok (.bipush 60, 2) := by decide +kernel
theorem dX6_against_48 : decode cX6_against 48 = .ok (.aload_n 0, 1) := by decide +kernel
theorem dX6_against_49 : decode cX6_against 49 = .ok (.getfield 34, 3) := by decide +kernel
theorem dX6_against_52 : decode cX6_against 52 = .ok (.getfield 118, 3) := by decide +kernel
theorem dX6_against_55 : decode cX6_against 55 = .ok (.isub, 1) := by decide +kernel
theorem dX6_against_56 : decode cX6_against 56 = .ok (.invokestatic 260, 3) := by decide +kernel
theorem dX6_against_59 : decode cX6_against 59 = .ok (.istore_n 3, 1) := by decide +kernel
theorem dX6_against_60 : decode cX6_against 60 = .ok (.iload_n 1, 1) := by decide +kernel
theorem dX6_against_61 : decode cX6_against 61 = .ok (.iconst 1, 1) := by decide +kernel
theorem dX6_against_62 : decode cX6_against 62 = .ok (.if_icmp .ne 15, 3) := by decide +kernel
theorem dX6_against_65 : decode cX6_against 65 = .ok (.iload_n 3, 1) := by decide +kernel
theorem dX6_against_66 : decode cX6_against 66 = .ok (.aload_n 0, 1) := by decide +kernel
theorem dX6_against_67 : decode cX6_against 67 = .ok (.getfield 34, 3) := by decide +kernel
theorem dX6_against_70 : decode cX6_against 70 = .ok (.getfield 262, 3) := by decide +kernel
theorem dX6_against_73 : decode cX6_against 73 = .ok (.invokestatic 260, 3) := by decide +kernel
theorem dX6_against_76 : decode cX6_against 76 = .ok (.istore_n 3, 1) := by decide +kernel
theorem dX6_against_77 : decode cX6_against 77 = .ok (.iconst 0, 1) := by decide +kernel
theorem dX6_against_78 : decode cX6_against 78 = .ok (.istore 4, 2) := by decide +kernel
theorem dX6_against_80 : decode cX6_against 80 = .ok (.iload 4, 2) := by decide +kernel
theorem dX6_against_82 : decode cX6_against 82 = .ok (.iload_n 3, 1) := by decide +kernel
theorem dX6_against_83 : decode cX6_against 83 = .ok (.if_icmp .gt 93, 3) := by decide +kernel
theorem dX6_against_86 : decode cX6_against 86 = .ok (.iload_n 1, 1) := by decide +kernel
theorem dX6_against_87 : decode cX6_against 87 = .ok (.iconst 1, 1) := by decide +kernel
theorem dX6_against_88 : decode cX6_against 88 = .ok (.if_icmp .ne 8, 3) := by decide +kernel
theorem dX6_against_91 : decode cX6_against 91 = .ok (.iload 4, 2) := by decide +kernel
theorem dX6_against_93 : decode cX6_against 93 = .ok (.goto 4, 3) := by decide +kernel
theorem dX6_against_96 : decode cX6_against 96 = .ok (.iconst 0, 1) := by decide +kernel
theorem dX6_against_97 : decode cX6_against 97 = .ok (.istore 5, 2) := by decide +kernel
theorem dX6_against_99 : decode cX6_against 99 = .ok (.aload_n 0, 1) := by decide +kernel
theorem dX6_against_100 : decode cX6_against 100 = .ok (.getfield 44, 3) := by decide +kernel
theorem dX6_against_103 : decode cX6_against 103 = .ok (.aload_n 0, 1) := by decide +kernel
theorem dX6_against_104 : decode cX6_against 104 = .ok (.getfield 34, 3) := by decide +kernel
theorem dX6_against_107 : decode cX6_against 107 = .ok (.invokevirtual 265, 3) := by decide +kernel
theorem dX6_against_110 : decode cX6_against 110 = .ok (.iload 5, 2) := by decide +kernel
theorem dX6_against_112 : decode cX6_against 112 = .ok (.isub, 1) := by decide +kernel
theorem dX6_against_113 : decode cX6_against 113 = .ok (.aload_n 0, 1) := by decide +kernel
theorem dX6_against_114 : decode cX6_against 114 = .ok (.getfield 34, 3) := by decide +kernel
theorem dX6_against_117 : decode cX6_against 117 = .ok (.getfield 121, 3) := by decide +kernel
theorem dX6_against_120 : decode cX6_against 120 = .ok (.iload 4, 2) := by decide +kernel
theorem dX6_against_122 : decode cX6_against 122 = .ok (.iadd, 1) := by decide +kernel
theorem dX6_against_123 : decode cX6_against 123 = .ok (.iload 5, 2) := by decide +kernel
theorem dX6_against_125 : decode cX6_against 125 = .ok (.isub, 1) := by decide +kernel
theorem dX6_against_126 : decode cX6_against 126 = .ok (.aload_n 0, 1) := by decide +kernel
theorem dX6_against_127 : decode cX6_against 127 = .ok (.getfield 34, 3) := by decide +kernel
theorem dX6_against_130 : decode cX6_against 130 = .ok (.getfield 128, 3) := by decide +kernel
theorem dX6_against_133 : decode cX6_against 133 = .ok (.iload 5, 2) := by decide +kernel
theorem dX6_against_135 : decode cX6_against 135 = .ok (.iadd, 1) := by decide +kernel
theorem dX6_against_136 : decode cX6_against 136 = .ok (.invokevirtual 268, 3) := by decide +kernel
theorem dX6_against_139 : decode cX6_against 139 = .ok (.ldc2_w 272, 3) := by decide +kernel
theorem dX6_against_142 : decode cX6_against 142 = .ok (.aload_n 0, 1) := by decide +kernel
theorem dX6_against_143 : decode cX6_against 143 = .ok (.iload_n 2, 1) := by decide +kernel
theorem dX6_against_144 : decode cX6_against 144 = .ok (.invokevirtual 180, 3) := by decide +kernel
theorem dX6_against_147 : decode cX6_against 147 = .ok (.lmul, 1) := by decide +kernel
theorem dX6_against_148 : decode cX6_against 148 = .ok (.aload_n 0, 1) := by decide +kernel
theorem dX6_against_149 : decode cX6_against 149 = .ok (.getfield 44, 3) := by decide +kernel
theorem dX6_against_152 : decode cX6_against 152 = .ok (.aload_n 0, 1) := by decide +kernel
theorem dX6_against_153 : decode cX6_against 153 = .ok (.getfield 44, 3) := by decide +kernel
theorem dX6_against_156 : decode cX6_against 156 = .ok (.invokevirtual 274, 3) := by decide +kernel
theorem dX6_against_159 : decode cX6_against 159 = .ok (.iload_n 2, 1) := by decide +kernel
theorem dX6_against_160 : decode cX6_against 160 = .ok (.invokevirtual 183, 3) := by decide +kernel
theorem dX6_against_163 : decode cX6_against 163 = .ok (.lcmp, 1) := by decide +kernel
theorem dX6_against_164 : decode cX6_against 164 = .ok (.ifCond .ge 6, 3) := by decide +kernel
theorem dX6_against_167 : decode cX6_against 167 = .ok (.iload 4, 2) := by decide +kernel
theorem dX6_against_169 : decode cX6_against 169 = .ok (.ireturn, 1) := by decide +kernel
theorem dX6_against_170 : decode cX6_against 170 = .ok (.iinc 4 1, 3) := by decide +kernel
theorem dX6_against_173 : decode cX6_against 173 = .ok (.goto (-93), 3) := by decide +kernel
theorem dX6_against_176 : decode cX6_against 176 = .ok (.bipush (-6), 2) := by decide +kernel
theorem dX6_against_178 : decode cX6_against 178 = .ok (.ireturn, 1) := by decide +kernel
theorem dX6_heap_0 : decode cX6_heap 0 = .ok (.aload_n 0, 1) := by decide +kernel
theorem dX6_heap_1 : decode cX6_heap 1 = .ok (.invokevirtual 115, 3) := by decide +kernel
theorem dX6_heap_4 : decode cX6_heap 4 = .ok (.iload_n 1, 1) := by decide +kernel
theorem dX6_heap_5 : decode cX6_heap 5 = .ok (.iconst 0, 1) := by decide +kernel
theorem dX6_heap_6 : decode cX6_heap 6 = .ok (.sipush 9999, 3) := by decide +kernel
theorem dX6_heap_9 : decode cX6_heap 9 = .ok (.invokestatic 69, 3) := by decide +kernel
theorem dX6_heap_12 : decode cX6_heap 12 = .ok (.ifCond .eq 27, 3) := by decide +kernel
theorem dX6_heap_15 : decode cX6_heap 15 = .ok (.iload_n 2, 1) := by decide +kernel
theorem dX6_heap_16 : decode cX6_heap 16 = .ok (.iconst 1, 1) := by decide +kernel
theorem dX6_heap_17 : decode cX6_heap 17 = .ok (.aload_n 0, 1) := by decide +kernel
theorem dX6_heap_18 : decode cX6_heap 18 = .ok (.getfield 34, 3) := by decide +kernel
theorem dX6_heap_21 : decode cX6_heap 21 = .ok (.getfield 118, 3) := by decide +kernel
theorem dX6_heap_24 : decode cX6_heap 24 = .ok (.invokestatic 69, 3) := by decide +kernel
theorem dX6_heap_27 : decode cX6_heap 27 = .ok (.ifCond .eq 12, 3) := by decide +kernel
theorem dX6_heap_30 : decode cX6_heap 30 = .ok (.iload_n 3, 1) := by decide +kernel
theorem dX6_heap_31 : decode cX6_heap 31 = .ok (.iconst 0, 1) := by decide +kernel
theorem dX6_heap_32 : decode cX6_heap 32 = .ok (.iconst 2, 1) := by decide +kernel
theorem dX6_heap_33 : decode cX6_heap 33 = .ok (.invokestatic 69, 3) := by decide +kernel
theorem dX6_heap_36 : decode cX6_heap 36 = .ok (.ifCond .ne 6, 3) := by decide +kernel
theorem dX6_heap_39 : decode cX6_heap 39 = .ok (.bipush (-2), 2) := by decide +kernel
theorem dX6_heap_41 : decode cX6_heap 41 = .ok (.ireturn, 1) := by decide +kernel
theorem dX6_heap_42 : decode cX6_heap 42 = .ok (.aload_n 0, 1) := by decide +kernel
theorem dX6_heap_43 : decode cX6_heap 43 = .ok (.getfield 34, 3) := by decide +kernel
theorem dX6_heap_46 : decode cX6_heap 46 = .ok (.getfield 124, 3) := by decide +kernel
theorem dX6_heap_49 : decode cX6_heap 49 = .ok (.ifCond .eq 6, 3) := by decide +kernel
theorem dX6_heap_52 : decode cX6_heap 52 = .ok (.bipush (-3), 2) := by decide +kernel
theorem dX6_heap_54 : decode cX6_heap 54 = .ok (.ireturn, 1) := by decide +kernel
theorem dX6_heap_55 : decode cX6_heap 55 = .ok (.aload_n 0, 1) := by decide +kernel
theorem dX6_heap_56 : decode cX6_heap 56 = .ok (.iload_n 1, 1) := by decide +kernel
theorem dX6_heap_57 : decode cX6_heap 57 = .ok (.iload_n 2, 1) := by decide +kernel
theorem dX6_heap_58 : decode cX6_heap 58 = .ok (.invokevirtual 276, 3) := by decide +kernel
theorem dX6_heap_61 : decode cX6_heap 61 = .ok (.iload_n 3, 1) := by decide +kernel
theorem dX6_heap_62 : decode cX6_heap 62 = .ok (.ifCond .ne 11, 3) := by decide +kernel
theorem dX6_heap_65 : decode cX6_heap 65 = .ok (.aload_n 0, 1) := by decide +kernel
theorem dX6_heap_66 : decode cX6_heap 66 = .ok (.getfield 38, 3) := by decide +kernel
theorem dX6_heap_69 : decode cX6_heap 69 = .ok (.invokevirtual 251, 3) := by decide +kernel
theorem dX6_heap_72 : decode cX6_heap 72 = .ok (.ireturn, 1) := by decide +kernel
theorem dX6_heap_73 : decode cX6_heap 73 = .ok (.iload_n 3, 1) := by decide +kernel
theorem dX6_heap_74 : decode cX6_heap 74 = .ok (.iconst 1, 1) := by decide +kernel
theorem dX6_heap_75 : decode cX6_heap 75 = .ok (.if_icmp .ne 11, 3) := by decide +kernel
theorem dX6_heap_78 : decode cX6_heap 78 = .ok (.aload_n 0, 1) := by decide +kernel
theorem dX6_heap_79 : decode cX6_heap 79 = .ok (.getfield 38, 3) := by decide +kernel
theorem dX6_heap_82 : decode cX6_heap 82 = .ok (.getfield 128, 3) := by decide +kernel
theorem dX6_heap_85 : decode cX6_heap 85 = .ok (.ireturn, 1) := by decide +kernel
theorem dX6_heap_86 : decode cX6_heap 86 = .ok (.aload_n 0, 1) := by decide +kernel
theorem dX6_heap_87 : decode cX6_heap 87 = .ok (.invokevirtual 280, 3) := by decide +kernel
theorem dX6_heap_90 : decode cX6_heap 90 = .ok (.ifCond .eq 7, 3) := by decide +kernel
theorem dX6_heap_93 : decode cX6_heap 93 = .ok (.iconst 1, 1) := by decide +kernel
theorem dX6_heap_94 : decode cX6_heap 94 = .ok (.goto 4, 3) := by decide +kernel
theorem dX6_heap_97 : decode cX6_heap 97 = .ok (.iconst 0, 1) := by decide +kernel
theorem dX6_heap_98 : decode cX6_heap 98 = .ok (.ireturn, 1) := by decide +kernel
theorem dX6_image_0 : decode cX6_image 0 = .ok (.iload_n 1, 1) := by decide +kernel
theorem dX6_image_1 : decode cX6_image 1 = .ok (.iconst 0, 1) := by decide +kernel
theorem dX6_image_2 : decode cX6_image 2 = .ok (.iconst 1, 1) := by decide +kernel
theorem dX6_image_3 : decode cX6_image 3 = .ok (.invokestatic 69, 3) := by decide +kernel
theorem dX6_image_6 : decode cX6_image 6 = .ok (.ifCond .ne 6, 3) := by decide +kernel
theorem dX6_image_9 : decode cX6_image 9 = .ok (.bipush (-2), 2) := by decide +kernel
theorem dX6_image_11 : decode cX6_image 11 = .ok (.ireturn, 1) := by decide +kernel
theorem dX6_image_12 : decode cX6_image 12 = .ok (.aload_n 0, 1) := by decide +kernel
theorem dX6_image_13 : decode cX6_image 13 = .ok (.iload_n 1, 1) := by decide +kernel
theorem dX6_image_14 : decode cX6_image 14 = .ok (.invokevirtual 284, 3) := by decide +kernel
theorem dX6_image_17 : decode cX6_image 17 = .ok (.astore_n 2, 1) := by decide +kernel
theorem dX6_image_18 : decode cX6_image 18 = .ok (.aload_n 2, 1) := by decide +kernel
theorem dX6_image_19 : decode cX6_image 19 = .ok (.aload_n 0, 1) := by decide +kernel
theorem dX6_image_20 : decode cX6_image 20 = .ok (.getfield 21, 3) := by decide +kernel
theorem dX6_image_23 : decode cX6_image 23 = .ok (.invokevirtual 288, 3) := by decide +kernel
theorem dX6_image_26 : decode cX6_image 26 = .ok (.aload_n 2, 1) := by decide +kernel
theorem dX6_image_27 : decode cX6_image 27 = .ok (.iconst 1, 1) := by decide +kernel
theorem dX6_image_28 : decode cX6_image 28 = .ok (.putfield 291, 3) := by decide +kernel
theorem dX6_image_31 : decode cX6_image 31 = .ok (.iconst 1, 1) := by decide +kernel
theorem dX6_image_32 : decode cX6_image 32 = .ok (.ireturn, 1) := by decide +kernel
theorem dX6_restore_0 : decode cX6_restore 0 = .ok (.iload_n 1, 1) := by decide +kernel
theorem dX6_restore_1 : decode cX6_restore 1 = .ok (.iconst 0, 1) := by decide +kernel
theorem dX6_restore_2 : decode cX6_restore 2 = .ok (.iconst 1, 1) := by decide +kernel
theorem dX6_restore_3 : decode cX6_restore 3 = .ok (.invokestatic 69, 3) := by decide +kernel
theorem dX6_restore_6 : decode cX6_restore 6 = .ok (.ifCond .ne 6, 3) := by decide +kernel
theorem dX6_restore_9 : decode cX6_restore 9 = .ok (.bipush (-2), 2) := by decide +kernel
theorem dX6_restore_11 : decode cX6_restore 11 = .ok (.ireturn, 1) := by decide +kernel
theorem dX6_restore_12 : decode cX6_restore 12 = .ok (.aload_n 0, 1) := by decide +kernel
theorem dX6_restore_13 : decode cX6_restore 13 = .ok (.iload_n 1, 1) := by decide +kernel
theorem dX6_restore_14 : decode cX6_restore 14 = .ok (.invokevirtual 284, 3) := by decide +kernel
theorem dX6_restore_17 : decode cX6_restore 17 = .ok (.astore_n 2, 1) := by decide +kernel
theorem dX6_restore_18 : decode cX6_restore 18 = .ok (.aload_n 2, 1) := by decide +kernel
theorem dX6_restore_19 : decode cX6_restore 19 = .ok (.getfield 291, 3) := by decide +kernel
theorem dX6_restore_22 : decode cX6_restore 22 = .ok (.ifCond .ne 6, 3) := by decide +kernel
theorem dX6_restore_25 : decode cX6_restore 25 = .ok (.bipush (-3), 2) := by decide +kernel
theorem dX6_restore_27 : decode cX6_restore 27 = .ok (.ireturn, 1) := by decide +kernel
theorem dX6_restore_28 : decode cX6_restore 28 = .ok (.aload_n 0, 1) := by decide +kernel
theorem dX6_restore_29 : decode cX6_restore 29 = .ok (.getfield 21, 3) := by decide +kernel
theorem dX6_restore_32 : decode cX6_restore 32 = .ok (.aload_n 2, 1) := by decide +kernel
theorem dX6_restore_33 : decode cX6_restore 33 = .ok (.invokevirtual 288, 3) := by decide +kernel
theorem dX6_restore_36 : decode cX6_restore 36 = .ok (.iconst 1, 1) := by decide +kernel
theorem dX6_restore_37 : decode cX6_restore 37 = .ok (.ireturn, 1) := by decide +kernel
theorem dX6_told_0 : decode cX6_told 0 = .ok (.iload_n 1, 1) := by decide +kernel
theorem dX6_told_1 : decode cX6_told 1 = .ok (.bipush 10, 2) := by decide +kernel
theorem dX6_told_3 : decode cX6_told 3 = .ok (.isub, 1) := by decide +kernel
theorem dX6_told_4 : decode cX6_told 4 = .ok (.invokestatic 91, 3) := by decide +kernel
theorem dX6_told_7 : decode cX6_told 7 = .ok (.ifCond .eq 15, 3) := by decide +kernel
theorem dX6_told_10 : decode cX6_told 10 = .ok (.aload_n 0, 1) := by decide +kernel
theorem dX6_told_11 : decode cX6_told 11 = .ok (.getfield 21, 3) := by decide +kernel
theorem dX6_told_14 : decode cX6_told 14 = .ok (.iload_n 1, 1) := by decide +kernel
theorem dX6_told_15 : decode cX6_told 15 = .ok (.bipush 10, 2) := by decide +kernel
theorem dX6_told_17 : decode cX6_told 17 = .ok (.isub, 1) := by decide +kernel
theorem dX6_told_18 : decode cX6_told 18 = .ok (.invokevirtual 294, 3) := by decide +kernel
theorem dX6_told_21 : decode cX6_told 21 = .ok (.ireturn, 1) := by decide +kernel
theorem dX6_told_22 : decode cX6_told 22 = .ok (.iload_n 1, 1) := by decide +kernel
theorem dX6_told_23 : decode cX6_told 23 = .ok (.bipush 20, 2) := by decide +kernel
theorem dX6_told_25 : decode cX6_told 25 = .ok (.isub, 1) := by decide +kernel
theorem dX6_told_26 : decode cX6_told 26 = .ok (.invokestatic 91, 3) := by decide +kernel
theorem dX6_told_29 : decode cX6_told 29 = .ok (.ifCond .eq 15, 3) := by decide +kernel
theorem dX6_told_32 : decode cX6_told 32 = .ok (.aload_n 0, 1) := by decide +kernel
theorem dX6_told_33 : decode cX6_told 33 = .ok (.getfield 21, 3) := by decide +kernel
theorem dX6_told_36 : decode cX6_told 36 = .ok (.iload_n 1, 1) := by decide +kernel
theorem dX6_told_37 : decode cX6_told 37 = .ok (.bipush 20, 2) := by decide +kernel
theorem dX6_told_39 : decode cX6_told 39 = .ok (.isub, 1) := by decide +kernel
theorem dX6_told_40 : decode cX6_told 40 = .ok (.invokevirtual 108, 3) := by decide +kernel
theorem dX6_told_43 : decode cX6_told 43 = .ok (.ireturn, 1) := by decide +kernel
theorem dX6_told_44 : decode cX6_told 44 = .ok (.iload_n 1, 1) := by decide +kernel
theorem dX6_told_45 : decode cX6_told 45 = .ok (.tableswitch 66 0 3 #[31, 39, 47, 58], 31) := by decide +kernel
theorem dX6_told_76 : decode cX6_told 76 = .ok (.aload_n 0, 1) := by decide +kernel
theorem dX6_told_77 : decode cX6_told 77 = .ok (.getfield 14, 3) := by decide +kernel
theorem dX6_told_80 : decode cX6_told 80 = .ok (.getfield 77, 3) := by decide +kernel
theorem dX6_told_83 : decode cX6_told 83 = .ok (.ireturn, 1) := by decide +kernel
theorem dX6_told_84 : decode cX6_told 84 = .ok (.aload_n 0, 1) := by decide +kernel
theorem dX6_told_85 : decode cX6_told 85 = .ok (.getfield 21, 3) := by decide +kernel
theorem dX6_told_88 : decode cX6_told 88 = .ok (.getfield 134, 3) := by decide +kernel
theorem dX6_told_91 : decode cX6_told 91 = .ok (.ireturn, 1) := by decide +kernel
theorem dX6_told_92 : decode cX6_told 92 = .ok (.aload_n 0, 1) := by decide +kernel
theorem dX6_told_93 : decode cX6_told 93 = .ok (.getfield 21, 3) := by decide +kernel
theorem dX6_told_96 : decode cX6_told 96 = .ok (.getfield 137, 3) := by decide +kernel
theorem dX6_told_99 : decode cX6_told 99 = .ok (.getfield 77, 3) := by decide +kernel
theorem dX6_told_102 : decode cX6_told 102 = .ok (.ireturn, 1) := by decide +kernel
theorem dX6_told_103 : decode cX6_told 103 = .ok (.aload_n 0, 1) := by decide +kernel
theorem dX6_told_104 : decode cX6_told 104 = .ok (.getfield 21, 3) := by decide +kernel
theorem dX6_told_107 : decode cX6_told 107 = .ok (.getfield 297, 3) := by decide +kernel
theorem dX6_told_110 : decode cX6_told 110 = .ok (.ireturn, 1) := by decide +kernel
theorem dX6_told_111 : decode cX6_told 111 = .ok (.bipush (-2), 2) := by decide +kernel
theorem dX6_told_113 : decode cX6_told 113 = .ok (.ireturn, 1) := by decide +kernel
theorem dX6_isWithin_0 : decode cX6_isWithin 0 = .ok (.iload_n 0, 1) := by decide +kernel
theorem dX6_isWithin_1 : decode cX6_isWithin 1 = .ok (.iload_n 1, 1) := by decide +kernel
theorem dX6_isWithin_2 : decode cX6_isWithin 2 = .ok (.if_icmp .lt 12, 3) := by decide +kernel
theorem dX6_isWithin_5 : decode cX6_isWithin 5 = .ok (.iload_n 0, 1) := by decide +kernel
theorem dX6_isWithin_6 : decode cX6_isWithin 6 = .ok (.iload_n 2, 1) := by decide +kernel
theorem dX6_isWithin_7 : decode cX6_isWithin 7 = .ok (.if_icmp .gt 7, 3) := by decide +kernel
theorem dX6_isWithin_10 : decode cX6_isWithin 10 = .ok (.iconst 1, 1) := by decide +kernel
theorem dX6_isWithin_11 : decode cX6_isWithin 11 = .ok (.goto 4, 3) := by decide +kernel
theorem dX6_isWithin_14 : decode cX6_isWithin 14 = .ok (.iconst 0, 1) := by decide +kernel
theorem dX6_isWithin_15 : decode cX6_isWithin 15 = .ok (.ireturn, 1) := by decide +kernel
theorem dX6_isSheet_0 : decode cX6_isSheet 0 = .ok (.iload_n 0, 1) := by decide +kernel
theorem dX6_isSheet_1 : decode cX6_isSheet 1 = .ok (.iconst 0, 1) := by decide +kernel
theorem dX6_isSheet_2 : decode cX6_isSheet 2 = .ok (.iconst 5, 1) := by decide +kernel
theorem dX6_isSheet_3 : decode cX6_isSheet 3 = .ok (.invokestatic 69, 3) := by decide +kernel
theorem dX6_isSheet_6 : decode cX6_isSheet 6 = .ok (.ireturn, 1) := by decide +kernel
theorem dX6_isGatherer_0 : decode cX6_isGatherer 0 = .ok (.iload_n 0, 1) := by decide +kernel
theorem dX6_isGatherer_1 : decode cX6_isGatherer 1 = .ok (.iconst 0, 1) := by decide +kernel
theorem dX6_isGatherer_2 : decode cX6_isGatherer 2 = .ok (.iconst 4, 1) := by decide +kernel
theorem dX6_isGatherer_3 : decode cX6_isGatherer 3 = .ok (.invokestatic 69, 3) := by decide +kernel
theorem dX6_isGatherer_6 : decode cX6_isGatherer 6 = .ok (.ireturn, 1) := by decide +kernel
theorem dX6_isNumber_0 : decode cX6_isNumber 0 = .ok (.iload_n 0, 1) := by decide +kernel
theorem dX6_isNumber_1 : decode cX6_isNumber 1 = .ok (.iconst 0, 1) := by decide +kernel
theorem dX6_isNumber_2 : decode cX6_isNumber 2 = .ok (.bipush 60, 2) := by decide +kernel
theorem dX6_isNumber_4 : decode cX6_isNumber 4 = .ok (.invokestatic 69, 3) := by decide +kernel
theorem dX6_isNumber_7 : decode cX6_isNumber 7 = .ok (.ireturn, 1) := by decide +kernel
theorem dX6_isPart_0 : decode cX6_isPart 0 = .ok (.iload_n 0, 1) := by decide +kernel
theorem dX6_isPart_1 : decode cX6_isPart 1 = .ok (.iconst 0, 1) := by decide +kernel
theorem dX6_isPart_2 : decode cX6_isPart 2 = .ok (.iconst 1, 1) := by decide +kernel
theorem dX6_isPart_3 : decode cX6_isPart 3 = .ok (.invokestatic 69, 3) := by decide +kernel
theorem dX6_isPart_6 : decode cX6_isPart 6 = .ok (.ireturn, 1) := by decide +kernel
theorem dX6_isLetter_0 : decode cX6_isLetter 0 = .ok (.iload_n 0, 1) := by decide +kernel
theorem dX6_isLetter_1 : decode cX6_isLetter 1 = .ok (.bipush 65, 2) := by decide +kernel
theorem dX6_isLetter_3 : decode cX6_isLetter 3 = .ok (.bipush 90, 2) := by decide +kernel
theorem dX6_isLetter_5 : decode cX6_isLetter 5 = .ok (.invokestatic 69, 3) := by decide +kernel
theorem dX6_isLetter_8 : decode cX6_isLetter 8 = .ok (.ireturn, 1) := by decide +kernel
theorem dX6_isBad_0 : decode cX6_isBad 0 = .ok (.iload_n 0, 1) := by decide +kernel
theorem dX6_isBad_1 : decode cX6_isBad 1 = .ok (.bipush 115, 2) := by decide +kernel
theorem dX6_isBad_3 : decode cX6_isBad 3 = .ok (.if_icmp .eq 15, 3) := by decide +kernel
theorem dX6_isBad_6 : decode cX6_isBad 6 = .ok (.iload_n 0, 1) := by decide +kernel
theorem dX6_isBad_7 : decode cX6_isBad 7 = .ok (.bipush 109, 2) := by decide +kernel
theorem dX6_isBad_9 : decode cX6_isBad 9 = .ok (.if_icmp .eq 9, 3) := by decide +kernel
theorem dX6_isBad_12 : decode cX6_isBad 12 = .ok (.iload_n 0, 1) := by decide +kernel
theorem dX6_isBad_13 : decode cX6_isBad 13 = .ok (.bipush 117, 2) := by decide +kernel
theorem dX6_isBad_15 : decode cX6_isBad 15 = .ok (.if_icmp .ne 7, 3) := by decide +kernel
theorem dX6_isBad_18 : decode cX6_isBad 18 = .ok (.iconst 1, 1) := by decide +kernel
theorem dX6_isBad_19 : decode cX6_isBad 19 = .ok (.goto 4, 3) := by decide +kernel
theorem dX6_isBad_22 : decode cX6_isBad 22 = .ok (.iconst 0, 1) := by decide +kernel
theorem dX6_isBad_23 : decode cX6_isBad 23 = .ok (.ireturn, 1) := by decide +kernel
theorem dX6_isOperator_0 : decode cX6_isOperator 0 = .ok (.iload_n 0, 1) := by decide +kernel
theorem dX6_isOperator_1 : decode cX6_isOperator 1 = .ok (.bipush 43, 2) := by decide +kernel
theorem dX6_isOperator_3 : decode cX6_isOperator 3 = .ok (.if_icmp .eq 21, 3) := by decide +kernel
theorem dX6_isOperator_6 : decode cX6_isOperator 6 = .ok (.iload_n 0, 1) := by decide +kernel
theorem dX6_isOperator_7 : decode cX6_isOperator 7 = .ok (.bipush 45, 2) := by decide +kernel
theorem dX6_isOperator_9 : decode cX6_isOperator 9 = .ok (.if_icmp .eq 15, 3) := by decide +kernel
theorem dX6_isOperator_12 : decode cX6_isOperator 12 = .ok (.iload_n 0, 1) := by decide +kernel
theorem dX6_isOperator_13 : decode cX6_isOperator 13 = .ok (.bipush 42, 2) := by decide +kernel
theorem dX6_isOperator_15 : decode cX6_isOperator 15 = .ok (.if_icmp .eq 9, 3) := by decide +kernel
theorem dX6_isOperator_18 : decode cX6_isOperator 18 = .ok (.iload_n 0, 1) := by decide +kernel
theorem dX6_isOperator_19 : decode cX6_isOperator 19 = .ok (.bipush 47, 2) := by decide +kernel
theorem dX6_isOperator_21 : decode cX6_isOperator 21 = .ok (.if_icmp .ne 7, 3) := by decide +kernel
theorem dX6_isOperator_24 : decode cX6_isOperator 24 = .ok (.iconst 1, 1) := by decide +kernel
theorem dX6_isOperator_25 : decode cX6_isOperator 25 = .ok (.goto 4, 3) := by decide +kernel
theorem dX6_isOperator_28 : decode cX6_isOperator 28 = .ok (.iconst 0, 1) := by decide +kernel
theorem dX6_isOperator_29 : decode cX6_isOperator 29 = .ok (.ireturn, 1) := by decide +kernel
theorem dX6_isOperand_0 : decode cX6_isOperand 0 = .ok (.iload_n 0, 1) := by decide +kernel
theorem dX6_isOperand_1 : decode cX6_isOperand 1 = .ok (.bipush 78, 2) := by decide +kernel
theorem dX6_isOperand_3 : decode cX6_isOperand 3 = .ok (.if_icmp .eq 32, 3) := by decide +kernel
theorem dX6_isOperand_6 : decode cX6_isOperand 6 = .ok (.iload_n 0, 1) := by decide +kernel
theorem dX6_isOperand_7 : decode cX6_isOperand 7 = .ok (.bipush 107, 2) := by decide +kernel
theorem dX6_isOperand_9 : decode cX6_isOperand 9 = .ok (.if_icmp .eq 26, 3) := by decide +kernel
theorem dX6_isOperand_12 : decode cX6_isOperand 12 = .ok (.iload_n 0, 1) := by decide +kernel
theorem dX6_isOperand_13 : decode cX6_isOperand 13 = .ok (.bipush 118, 2) := by decide +kernel
theorem dX6_isOperand_15 : decode cX6_isOperand 15 = .ok (.if_icmp .eq 20, 3) := by decide +kernel
theorem dX6_isOperand_18 : decode cX6_isOperand 18 = .ok (.iload_n 0, 1) := by decide +kernel
theorem dX6_isOperand_19 : decode cX6_isOperand 19 = .ok (.bipush 100, 2) := by decide +kernel
theorem dX6_isOperand_21 : decode cX6_isOperand 21 = .ok (.if_icmp .eq 14, 3) := by decide +kernel
theorem dX6_isOperand_24 : decode cX6_isOperand 24 = .ok (.iload_n 0, 1) := by decide +kernel
theorem dX6_isOperand_25 : decode cX6_isOperand 25 = .ok (.bipush 48, 2) := by decide +kernel
theorem dX6_isOperand_27 : decode cX6_isOperand 27 = .ok (.bipush 57, 2) := by decide +kernel
theorem dX6_isOperand_29 : decode cX6_isOperand 29 = .ok (.invokestatic 69, 3) := by decide +kernel
theorem dX6_isOperand_32 : decode cX6_isOperand 32 = .ok (.ifCond .eq 7, 3) := by decide +kernel
theorem dX6_isOperand_35 : decode cX6_isOperand 35 = .ok (.iconst 1, 1) := by decide +kernel
theorem dX6_isOperand_36 : decode cX6_isOperand 36 = .ok (.goto 4, 3) := by decide +kernel
theorem dX6_isOperand_39 : decode cX6_isOperand 39 = .ok (.iconst 0, 1) := by decide +kernel
theorem dX6_isOperand_40 : decode cX6_isOperand 40 = .ok (.ireturn, 1) := by decide +kernel
theorem dX6_namesFault_0 : decode cX6_namesFault 0 = .ok (.iconst 0, 1) := by decide +kernel
theorem dX6_namesFault_1 : decode cX6_namesFault 1 = .ok (.istore_n 1, 1) := by decide +kernel
theorem dX6_namesFault_2 : decode cX6_namesFault 2 = .ok (.iload_n 1, 1) := by decide +kernel
theorem dX6_namesFault_3 : decode cX6_namesFault 3 = .ok (.aload_n 0, 1) := by decide +kernel
theorem dX6_namesFault_4 : decode cX6_namesFault 4 = .ok (.getfield 14, 3) := by decide +kernel
theorem dX6_namesFault_7 : decode cX6_namesFault 7 = .ok (.getfield 77, 3) := by decide +kernel
theorem dX6_namesFault_10 : decode cX6_namesFault 10 = .ok (.if_icmp .ge 56, 3) := by decide +kernel
theorem dX6_namesFault_13 : decode cX6_namesFault 13 = .ok (.aload_n 0, 1) := by decide +kernel
theorem dX6_namesFault_14 : decode cX6_namesFault 14 = .ok (.getfield 14, 3) := by decide +kernel
theorem dX6_namesFault_17 : decode cX6_namesFault 17 = .ok (.iload_n 1, 1) := by decide +kernel
theorem dX6_namesFault_18 : decode cX6_namesFault 18 = .ok (.invokevirtual 300, 3) := by decide +kernel
theorem dX6_namesFault_21 : decode cX6_namesFault 21 = .ok (.istore_n 2, 1) := by decide +kernel
theorem dX6_namesFault_22 : decode cX6_namesFault 22 = .ok (.iload_n 2, 1) := by decide +kernel
theorem dX6_namesFault_23 : decode cX6_namesFault 23 = .ok (.bipush 46, 2) := by decide +kernel
theorem dX6_namesFault_25 : decode cX6_namesFault 25 = .ok (.if_icmp .eq 17, 3) := by decide +kernel
theorem dX6_namesFault_28 : decode cX6_namesFault 28 = .ok (.iload_n 2, 1) := by decide +kernel
theorem dX6_namesFault_29 : decode cX6_namesFault 29 = .ok (.invokestatic 303, 3) := by decide +kernel
theorem dX6_namesFault_32 : decode cX6_namesFault 32 = .ok (.ifCond .ne 10, 3) := by decide +kernel
theorem dX6_namesFault_35 : decode cX6_namesFault 35 = .ok (.iload_n 2, 1) := by decide +kernel
theorem dX6_namesFault_36 : decode cX6_namesFault 36 = .ok (.invokestatic 306, 3) := by decide +kernel
theorem dX6_namesFault_39 : decode cX6_namesFault 39 = .ok (.ifCond .eq 7, 3) := by decide +kernel
theorem dX6_namesFault_42 : decode cX6_namesFault 42 = .ok (.iconst 1, 1) := by decide +kernel
theorem dX6_namesFault_43 : decode cX6_namesFault 43 = .ok (.goto 4, 3) := by decide +kernel
theorem dX6_namesFault_46 : decode cX6_namesFault 46 = .ok (.iconst 0, 1) := by decide +kernel
theorem dX6_namesFault_47 : decode cX6_namesFault 47 = .ok (.istore_n 3, 1) := by decide +kernel
theorem dX6_namesFault_48 : decode cX6_namesFault 48 = .ok (.iload_n 1, 1) := by decide +kernel
theorem dX6_namesFault_49 : decode cX6_namesFault 49 = .ok (.bipush 10, 2) := by decide +kernel
theorem dX6_namesFault_51 : decode cX6_namesFault 51 = .ok (.if_icmp .ge 7, 3) := by decide +kernel
theorem dX6_namesFault_54 : decode cX6_namesFault 54 = .ok (.iload_n 3, 1) := by decide +kernel
theorem dX6_namesFault_55 : decode cX6_namesFault 55 = .ok (.ifCond .ne 5, 3) := by decide +kernel
theorem dX6_namesFault_58 : decode cX6_namesFault 58 = .ok (.iload_n 1, 1) := by decide +kernel
theorem dX6_namesFault_59 : decode cX6_namesFault 59 = .ok (.ireturn, 1) := by decide +kernel
theorem dX6_namesFault_60 : decode cX6_namesFault 60 = .ok (.iinc 1 1, 3) := by decide +kernel
theorem dX6_namesFault_63 : decode cX6_namesFault 63 = .ok (.goto (-61), 3) := by decide +kernel
theorem dX6_namesFault_66 : decode cX6_namesFault 66 = .ok (.bipush (-6), 2) := by decide +kernel
theorem dX6_namesFault_68 : decode cX6_namesFault 68 = .ok (.ireturn, 1) := by decide +kernel
theorem dX6_ruleFault_0 : decode cX6_ruleFault 0 = .ok (.iconst 1, 1) := by decide +kernel
theorem dX6_ruleFault_1 : decode cX6_ruleFault 1 = .ok (.istore_n 1, 1) := by decide +kernel
theorem dX6_ruleFault_2 : decode cX6_ruleFault 2 = .ok (.iconst 0, 1) := by decide +kernel
theorem dX6_ruleFault_3 : decode cX6_ruleFault 3 = .ok (.istore_n 2, 1) := by decide +kernel
theorem dX6_ruleFault_4 : decode cX6_ruleFault 4 = .ok (.iload_n 2, 1) := by decide +kernel
theorem dX6_ruleFault_5 : decode cX6_ruleFault 5 = .ok (.aload_n 0, 1) := by decide +kernel
theorem dX6_ruleFault_6 : decode cX6_ruleFault 6 = .ok (.getfield 14, 3) := by decide +kernel
theorem dX6_ruleFault_9 : decode cX6_ruleFault 9 = .ok (.getfield 77, 3) := by decide +kernel
theorem dX6_ruleFault_12 : decode cX6_ruleFault 12 = .ok (.if_icmp .ge 58, 3) := by decide +kernel
theorem dX6_ruleFault_15 : decode cX6_ruleFault 15 = .ok (.aload_n 0, 1) := by decide +kernel
theorem dX6_ruleFault_16 : decode cX6_ruleFault 16 = .ok (.getfield 14, 3) := by decide +kernel
theorem dX6_ruleFault_19 : decode cX6_ruleFault 19 = .ok (.iload_n 2, 1) := by decide +kernel
theorem dX6_ruleFault_20 : decode cX6_ruleFault 20 = .ok (.invokevirtual 300, 3) := by decide +kernel
theorem dX6_ruleFault_23 : decode cX6_ruleFault 23 = .ok (.istore_n 3, 1) := by decide +kernel
theorem dX6_ruleFault_24 : decode cX6_ruleFault 24 = .ok (.iload_n 2, 1) := by decide +kernel
theorem dX6_ruleFault_25 : decode cX6_ruleFault 25 = .ok (.bipush 11, 2) := by decide +kernel
theorem dX6_ruleFault_27 : decode cX6_ruleFault 27 = .ok (.if_icmp .ge 7, 3) := by decide +kernel
theorem dX6_ruleFault_30 : decode cX6_ruleFault 30 = .ok (.iload_n 1, 1) := by decide +kernel
theorem dX6_ruleFault_31 : decode cX6_ruleFault 31 = .ok (.ifCond .ne 5, 3) := by decide +kernel
theorem dX6_ruleFault_34 : decode cX6_ruleFault 34 = .ok (.iload_n 2, 1) := by decide +kernel
theorem dX6_ruleFault_35 : decode cX6_ruleFault 35 = .ok (.ireturn, 1) := by decide +kernel
theorem dX6_ruleFault_36 : decode cX6_ruleFault 36 = .ok (.iload_n 3, 1) := by decide +kernel
theorem dX6_ruleFault_37 : decode cX6_ruleFault 37 = .ok (.invokestatic 309, 3) := by decide +kernel
theorem dX6_ruleFault_40 : decode cX6_ruleFault 40 = .ok (.ifCond .eq 9, 3) := by decide +kernel
theorem dX6_ruleFault_43 : decode cX6_ruleFault 43 = .ok (.iinc 1 1, 3) := by decide +kernel
theorem dX6_ruleFault_46 : decode cX6_ruleFault 46 = .ok (.goto 18, 3) := by decide +kernel
theorem dX6_ruleFault_49 : decode cX6_ruleFault 49 = .ok (.iload_n 3, 1) := by decide +kernel
theorem dX6_ruleFault_50 : decode cX6_ruleFault 50 = .ok (.invokestatic 312, 3) := by decide +kernel
theorem dX6_ruleFault_53 : decode cX6_ruleFault 53 = .ok (.ifCond .eq 9, 3) := by decide +kernel
theorem dX6_ruleFault_56 : decode cX6_ruleFault 56 = .ok (.iinc 1 (-1), 3) := by decide +kernel
theorem dX6_ruleFault_59 : decode cX6_ruleFault 59 = .ok (.goto 5, 3) := by decide +kernel
theorem dX6_ruleFault_62 : decode cX6_ruleFault 62 = .ok (.iload_n 2, 1) := by decide +kernel
theorem dX6_ruleFault_63 : decode cX6_ruleFault 63 = .ok (.ireturn, 1) := by decide +kernel
theorem dX6_ruleFault_64 : decode cX6_ruleFault 64 = .ok (.iinc 2 1, 3) := by decide +kernel
theorem dX6_ruleFault_67 : decode cX6_ruleFault 67 = .ok (.goto (-63), 3) := by decide +kernel
theorem dX6_ruleFault_70 : decode cX6_ruleFault 70 = .ok (.iload_n 1, 1) := by decide +kernel
theorem dX6_ruleFault_71 : decode cX6_ruleFault 71 = .ok (.ifCond .ne 8, 3) := by decide +kernel
theorem dX6_ruleFault_74 : decode cX6_ruleFault 74 = .ok (.bipush (-6), 2) := by decide +kernel
theorem dX6_ruleFault_76 : decode cX6_ruleFault 76 = .ok (.goto 10, 3) := by decide +kernel
theorem dX6_ruleFault_79 : decode cX6_ruleFault 79 = .ok (.aload_n 0, 1) := by decide +kernel
theorem dX6_ruleFault_80 : decode cX6_ruleFault 80 = .ok (.getfield 14, 3) := by decide +kernel
theorem dX6_ruleFault_83 : decode cX6_ruleFault 83 = .ok (.getfield 77, 3) := by decide +kernel
theorem dX6_ruleFault_86 : decode cX6_ruleFault 86 = .ok (.ireturn, 1) := by decide +kernel
theorem dX6_readList_0 : decode cX6_readList 0 = .ok (.aload_n 0, 1) := by decide +kernel
theorem dX6_readList_1 : decode cX6_readList 1 = .ok (.getfield 34, 3) := by decide +kernel
theorem dX6_readList_4 : decode cX6_readList 4 = .ok (.aload_n 0, 1) := by decide +kernel
theorem dX6_readList_5 : decode cX6_readList 5 = .ok (.getfield 21, 3) := by decide +kernel
theorem dX6_readList_8 : decode cX6_readList 8 = .ok (.bipush 63, 2) := by decide +kernel
theorem dX6_readList_10 : decode cX6_readList 10 = .ok (.aload_n 0, 1) := by decide +kernel
theorem dX6_readList_11 : decode cX6_readList 11 = .ok (.getfield 21, 3) := by decide +kernel
theorem dX6_readList_14 : decode cX6_readList 14 = .ok (.getfield 297, 3) := by decide +kernel
theorem dX6_readList_17 : decode cX6_readList 17 = .ok (.iconst (-1), 1) := by decide +kernel
theorem dX6_readList_18 : decode cX6_readList 18 = .ok (.ixor, 1) := by decide +kernel
theorem dX6_readList_19 : decode cX6_readList 19 = .ok (.iand, 1) := by decide +kernel
theorem dX6_readList_20 : decode cX6_readList 20 = .ok (.invokevirtual 217, 3) := by decide +kernel
theorem dX6_readList_23 : decode cX6_readList 23 = .ok (.return_, 1) := by decide +kernel
theorem dX6_filledSheets_0 : decode cX6_filledSheets 0 = .ok (.iconst 0, 1) := by decide +kernel
theorem dX6_filledSheets_1 : decode cX6_filledSheets 1 = .ok (.istore_n 1, 1) := by decide +kernel
theorem dX6_filledSheets_2 : decode cX6_filledSheets 2 = .ok (.iconst 0, 1) := by decide +kernel
theorem dX6_filledSheets_3 : decode cX6_filledSheets 3 = .ok (.istore_n 2, 1) := by decide +kernel
theorem dX6_filledSheets_4 : decode cX6_filledSheets 4 = .ok (.iload_n 2, 1) := by decide +kernel
theorem dX6_filledSheets_5 : decode cX6_filledSheets 5 = .ok (.bipush 6, 2) := by decide +kernel
theorem dX6_filledSheets_7 : decode cX6_filledSheets 7 = .ok (.if_icmp .ge 37, 3) := by decide +kernel
theorem dX6_filledSheets_10 : decode cX6_filledSheets 10 = .ok (.aload_n 0, 1) := by decide +kernel
theorem dX6_filledSheets_11 : decode cX6_filledSheets 11 = .ok (.getfield 21, 3) := by decide +kernel
theorem dX6_filledSheets_14 : decode cX6_filledSheets 14 = .ok (.iload_n 2, 1) := by decide +kernel
theorem dX6_filledSheets_15 : decode cX6_filledSheets 15 = .ok (.invokevirtual 254, 3) := by decide +kernel
theorem dX6_filledSheets_18 : decode cX6_filledSheets 18 = .ok (.ifCond .ne 20, 3) := by decide +kernel
theorem dX6_filledSheets_21 : decode cX6_filledSheets 21 = .ok (.aload_n 0, 1) := by decide +kernel
theorem dX6_filledSheets_22 : decode cX6_filledSheets 22 = .ok (.getfield 21, 3) := by decide +kernel
theorem dX6_filledSheets_25 : decode cX6_filledSheets 25 = .ok (.iload_n 2, 1) := by decide +kernel
theorem dX6_filledSheets_26 : decode cX6_filledSheets 26 = .ok (.invokevirtual 108, 3) := by decide +kernel
theorem dX6_filledSheets_29 : decode cX6_filledSheets 29 = .ok (.ifCond .le 9, 3) := by decide +kernel
theorem dX6_filledSheets_32 : decode cX6_filledSheets 32 = .ok (.iload_n 1, 1) := by decide +kernel
theorem dX6_filledSheets_33 : decode cX6_filledSheets 33 = .ok (.iconst 1, 1) := by decide +kernel
theorem dX6_filledSheets_34 : decode cX6_filledSheets 34 = .ok (.iload_n 2, 1) := by decide +kernel
theorem dX6_filledSheets_35 : decode cX6_filledSheets 35 = .ok (.ishl, 1) := by decide +kernel
theorem dX6_filledSheets_36 : decode cX6_filledSheets 36 = .ok (.ior, 1) := by decide +kernel
theorem dX6_filledSheets_37 : decode cX6_filledSheets 37 = .ok (.istore_n 1, 1) := by decide +kernel
theorem dX6_filledSheets_38 : decode cX6_filledSheets 38 = .ok (.iinc 2 1, 3) := by decide +kernel
theorem dX6_filledSheets_41 : decode cX6_filledSheets 41 = .ok (.goto (-37), 3) := by decide +kernel
theorem dX6_filledSheets_44 : decode cX6_filledSheets 44 = .ok (.iload_n 1, 1) := by decide +kernel
theorem dX6_filledSheets_45 : decode cX6_filledSheets 45 = .ok (.ireturn, 1) := by decide +kernel
theorem dX6_sheetsOf_0 : decode cX6_sheetsOf 0 = .ok (.iconst 0, 1) := by decide +kernel
theorem dX6_sheetsOf_1 : decode cX6_sheetsOf 1 = .ok (.istore_n 2, 1) := by decide +kernel
theorem dX6_sheetsOf_2 : decode cX6_sheetsOf 2 = .ok (.iconst 0, 1) := by decide +kernel
theorem dX6_sheetsOf_3 : decode cX6_sheetsOf 3 = .ok (.istore_n 3, 1) := by decide +kernel
theorem dX6_sheetsOf_4 : decode cX6_sheetsOf 4 = .ok (.iload_n 3, 1) := by decide +kernel
theorem dX6_sheetsOf_5 : decode cX6_sheetsOf 5 = .ok (.bipush 6, 2) := by decide +kernel
theorem dX6_sheetsOf_7 : decode cX6_sheetsOf 7 = .ok (.if_icmp .ge 38, 3) := by decide +kernel
theorem dX6_sheetsOf_10 : decode cX6_sheetsOf 10 = .ok (.aload_n 0, 1) := by decide +kernel
theorem dX6_sheetsOf_11 : decode cX6_sheetsOf 11 = .ok (.getfield 21, 3) := by decide +kernel
theorem dX6_sheetsOf_14 : decode cX6_sheetsOf 14 = .ok (.iload_n 3, 1) := by decide +kernel
theorem dX6_sheetsOf_15 : decode cX6_sheetsOf 15 = .ok (.invokevirtual 254, 3) := by decide +kernel
theorem dX6_sheetsOf_18 : decode cX6_sheetsOf 18 = .ok (.ifCond .ne 21, 3) := by decide +kernel
theorem dX6_sheetsOf_21 : decode cX6_sheetsOf 21 = .ok (.aload_n 0, 1) := by decide +kernel
theorem dX6_sheetsOf_22 : decode cX6_sheetsOf 22 = .ok (.getfield 21, 3) := by decide +kernel
theorem dX6_sheetsOf_25 : decode cX6_sheetsOf 25 = .ok (.iload_n 3, 1) := by decide +kernel
theorem dX6_sheetsOf_26 : decode cX6_sheetsOf 26 = .ok (.invokevirtual 294, 3) := by decide +kernel
theorem dX6_sheetsOf_29 : decode cX6_sheetsOf 29 = .ok (.iload_n 1, 1) := by decide +kernel
theorem dX6_sheetsOf_30 : decode cX6_sheetsOf 30 = .ok (.if_icmp .ne 9, 3) := by decide +kernel
theorem dX6_sheetsOf_33 : decode cX6_sheetsOf 33 = .ok (.iload_n 2, 1) := by decide +kernel
theorem dX6_sheetsOf_34 : decode cX6_sheetsOf 34 = .ok (.iconst 1, 1) := by decide +kernel
theorem dX6_sheetsOf_35 : decode cX6_sheetsOf 35 = .ok (.iload_n 3, 1) := by decide +kernel
theorem dX6_sheetsOf_36 : decode cX6_sheetsOf 36 = .ok (.ishl, 1) := by decide +kernel
theorem dX6_sheetsOf_37 : decode cX6_sheetsOf 37 = .ok (.ior, 1) := by decide +kernel
theorem dX6_sheetsOf_38 : decode cX6_sheetsOf 38 = .ok (.istore_n 2, 1) := by decide +kernel
theorem dX6_sheetsOf_39 : decode cX6_sheetsOf 39 = .ok (.iinc 3 1, 3) := by decide +kernel
theorem dX6_sheetsOf_42 : decode cX6_sheetsOf 42 = .ok (.goto (-38), 3) := by decide +kernel
theorem dX6_sheetsOf_45 : decode cX6_sheetsOf 45 = .ok (.iload_n 2, 1) := by decide +kernel
theorem dX6_sheetsOf_46 : decode cX6_sheetsOf 46 = .ok (.ireturn, 1) := by decide +kernel
theorem dX6_lossWithout_0 : decode cX6_lossWithout 0 = .ok (.aload_n 0, 1) := by decide +kernel
theorem dX6_lossWithout_1 : decode cX6_lossWithout 1 = .ok (.getfield 38, 3) := by decide +kernel
theorem dX6_lossWithout_4 : decode cX6_lossWithout 4 = .ok (.aload_n 0, 1) := by decide +kernel
theorem dX6_lossWithout_5 : decode cX6_lossWithout 5 = .ok (.getfield 21, 3) := by decide +kernel
theorem dX6_lossWithout_8 : decode cX6_lossWithout 8 = .ok (.bipush 63, 2) := by decide +kernel
theorem dX6_lossWithout_10 : decode cX6_lossWithout 10 = .ok (.aload_n 0, 1) := by decide +kernel
theorem dX6_lossWithout_11 : decode cX6_lossWithout 11 = .ok (.getfield 21, 3) := by decide +kernel
theorem dX6_lossWithout_14 : decode cX6_lossWithout 14 = .ok (.getfield 297, 3) := by decide +kernel
theorem dX6_lossWithout_17 : decode cX6_lossWithout 17 = .ok (.iconst (-1), 1) := by decide +kernel
theorem dX6_lossWithout_18 : decode cX6_lossWithout 18 = .ok (.ixor, 1) := by decide +kernel
theorem dX6_lossWithout_19 : decode cX6_lossWithout 19 = .ok (.iand, 1) := by decide +kernel
theorem dX6_lossWithout_20 : decode cX6_lossWithout 20 = .ok (.iconst 1, 1) := by decide +kernel
theorem dX6_lossWithout_21 : decode cX6_lossWithout 21 = .ok (.iload_n 1, 1) := by decide +kernel
theorem dX6_lossWithout_22 : decode cX6_lossWithout 22 = .ok (.ishl, 1) := by decide +kernel
theorem dX6_lossWithout_23 : decode cX6_lossWithout 23 = .ok (.iconst (-1), 1) := by decide +kernel
theorem dX6_lossWithout_24 : decode cX6_lossWithout 24 = .ok (.ixor, 1) := by decide +kernel
theorem dX6_lossWithout_25 : decode cX6_lossWithout 25 = .ok (.iand, 1) := by decide +kernel
theorem dX6_lossWithout_26 : decode cX6_lossWithout 26 = .ok (.invokevirtual 217, 3) := by decide +kernel
theorem dX6_lossWithout_29 : decode cX6_lossWithout 29 = .ok (.aload_n 0, 1) := by decide +kernel
theorem dX6_lossWithout_30 : decode cX6_lossWithout 30 = .ok (.getfield 34, 3) := by decide +kernel
theorem dX6_lossWithout_33 : decode cX6_lossWithout 33 = .ok (.invokevirtual 131, 3) := by decide +kernel
theorem dX6_lossWithout_36 : decode cX6_lossWithout 36 = .ok (.aload_n 0, 1) := by decide +kernel
theorem dX6_lossWithout_37 : decode cX6_lossWithout 37 = .ok (.getfield 38, 3) := by decide +kernel
theorem dX6_lossWithout_40 : decode cX6_lossWithout 40 = .ok (.invokevirtual 131, 3) := by decide +kernel
theorem dX6_lossWithout_43 : decode cX6_lossWithout 43 = .ok (.isub, 1) := by decide +kernel
theorem dX6_lossWithout_44 : decode cX6_lossWithout 44 = .ok (.ireturn, 1) := by decide +kernel
theorem dX6_hasNames_0 : decode cX6_hasNames 0 = .ok (.aload_n 0, 1) := by decide +kernel
theorem dX6_hasNames_1 : decode cX6_hasNames 1 = .ok (.getfield 38, 3) := by decide +kernel
theorem dX6_hasNames_4 : decode cX6_hasNames 4 = .ok (.aload_n 0, 1) := by decide +kernel
theorem dX6_hasNames_5 : decode cX6_hasNames 5 = .ok (.getfield 21, 3) := by decide +kernel
theorem dX6_hasNames_8 : decode cX6_hasNames 8 = .ok (.aload_n 0, 1) := by decide +kernel
theorem dX6_hasNames_9 : decode cX6_hasNames 9 = .ok (.iload_n 1, 1) := by decide +kernel
theorem dX6_hasNames_10 : decode cX6_hasNames 10 = .ok (.invokevirtual 214, 3) := by decide +kernel
theorem dX6_hasNames_13 : decode cX6_hasNames 13 = .ok (.invokevirtual 217, 3) := by decide +kernel
theorem dX6_hasNames_16 : decode cX6_hasNames 16 = .ok (.aload_n 0, 1) := by decide +kernel
theorem dX6_hasNames_17 : decode cX6_hasNames 17 = .ok (.getfield 38, 3) := by decide +kernel
theorem dX6_hasNames_20 : decode cX6_hasNames 20 = .ok (.getfield 118, 3) := by decide +kernel
theorem dX6_hasNames_23 : decode cX6_hasNames 23 = .ok (.ifCond .le 7, 3) := by decide +kernel
theorem dX6_hasNames_26 : decode cX6_hasNames 26 = .ok (.iconst 1, 1) := by decide +kernel
theorem dX6_hasNames_27 : decode cX6_hasNames 27 = .ok (.goto 4, 3) := by decide +kernel
theorem dX6_hasNames_30 : decode cX6_hasNames 30 = .ok (.iconst 0, 1) := by decide +kernel
theorem dX6_hasNames_31 : decode cX6_hasNames 31 = .ok (.ireturn, 1) := by decide +kernel
theorem dX6_gatherersWithNames_0 : decode cX6_gatherersWithNames 0 = .ok (.iconst 0, 1) := by decide +kernel
theorem dX6_gatherersWithNames_1 : decode cX6_gatherersWithNames 1 = .ok (.istore_n 1, 1) := by decide +kernel
theorem dX6_gatherersWithNames_2 : decode cX6_gatherersWithNames 2 = .ok (.iconst 0, 1) := by decide +kernel
theorem dX6_gatherersWithNames_3 : decode cX6_gatherersWithNames 3 = .ok (.istore_n 2, 1) := by decide +kernel
theorem dX6_gatherersWithNames_4 : decode cX6_gatherersWithNames 4 = .ok (.iload_n 2, 1) := by decide +kernel
theorem dX6_gatherersWithNames_5 : decode cX6_gatherersWithNames 5 = .ok (.iconst 5, 1) := by decide +kernel
theorem dX6_gatherersWithNames_6 : decode cX6_gatherersWithNames 6 = .ok (.if_icmp .ge 20, 3) := by decide +kernel
theorem dX6_gatherersWithNames_9 : decode cX6_gatherersWithNames 9 = .ok (.aload_n 0, 1) := by decide +kernel
theorem dX6_gatherersWithNames_10 : decode cX6_gatherersWithNames 10 = .ok (.iload_n 2, 1) := by decide +kernel
theorem dX6_gatherersWithNames_11 : decode cX6_gatherersWithNames 11 = .ok (.invokevirtual 227, 3) := by decide +kernel
theorem dX6_gatherersWithNames_14 : decode cX6_gatherersWithNames 14 = .ok (.ifCond .eq 6, 3) := by decide +kernel
theorem dX6_gatherersWithNames_17 : decode cX6_gatherersWithNames 17 = .ok (.iinc 1 1, 3) := by decide +kernel
theorem dX6_gatherersWithNames_20 : decode cX6_gatherersWithNames 20 = .ok (.iinc 2 1, 3) := by decide +kernel
theorem dX6_gatherersWithNames_23 : decode cX6_gatherersWithNames 23 = .ok (.goto (-19), 3) := by decide +kernel
theorem dX6_gatherersWithNames_26 : decode cX6_gatherersWithNames 26 = .ok (.iload_n 1, 1) := by decide +kernel
theorem dX6_gatherersWithNames_27 : decode cX6_gatherersWithNames 27 = .ok (.ireturn, 1) := by decide +kernel
theorem dX6_imageOf_0 : decode cX6_imageOf 0 = .ok (.iload_n 1, 1) := by decide +kernel
theorem dX6_imageOf_1 : decode cX6_imageOf 1 = .ok (.ifCond .ne 10, 3) := by decide +kernel
theorem dX6_imageOf_4 : decode cX6_imageOf 4 = .ok (.aload_n 0, 1) := by decide +kernel
theorem dX6_imageOf_5 : decode cX6_imageOf 5 = .ok (.getfield 25, 3) := by decide +kernel
theorem dX6_imageOf_8 : decode cX6_imageOf 8 = .ok (.goto 7, 3) := by decide +kernel
theorem dX6_imageOf_11 : decode cX6_imageOf 11 = .ok (.aload_n 0, 1) := by decide +kernel
theorem dX6_imageOf_12 : decode cX6_imageOf 12 = .ok (.getfield 28, 3) := by decide +kernel
theorem dX6_imageOf_15 : decode cX6_imageOf 15 = .ok (.areturn, 1) := by decide +kernel
theorem dX6_lotRefusal_0 : decode cX6_lotRefusal 0 = .ok (.aload_n 0, 1) := by decide +kernel
theorem dX6_lotRefusal_1 : decode cX6_lotRefusal 1 = .ok (.invokevirtual 115, 3) := by decide +kernel
theorem dX6_lotRefusal_4 : decode cX6_lotRefusal 4 = .ok (.iload_n 1, 1) := by decide +kernel
theorem dX6_lotRefusal_5 : decode cX6_lotRefusal 5 = .ok (.iconst 1, 1) := by decide +kernel
theorem dX6_lotRefusal_6 : decode cX6_lotRefusal 6 = .ok (.aload_n 0, 1) := by decide +kernel
theorem dX6_lotRefusal_7 : decode cX6_lotRefusal 7 = .ok (.getfield 34, 3) := by decide +kernel
theorem dX6_lotRefusal_10 : decode cX6_lotRefusal 10 = .ok (.getfield 118, 3) := by decide +kernel
theorem dX6_lotRefusal_13 : decode cX6_lotRefusal 13 = .ok (.invokestatic 69, 3) := by decide +kernel
theorem dX6_lotRefusal_16 : decode cX6_lotRefusal 16 = .ok (.ifCond .eq 10, 3) := by decide +kernel
theorem dX6_lotRefusal_19 : decode cX6_lotRefusal 19 = .ok (.iload_n 2, 1) := by decide +kernel
theorem dX6_lotRefusal_20 : decode cX6_lotRefusal 20 = .ok (.invokestatic 147, 3) := by decide +kernel
theorem dX6_lotRefusal_23 : decode cX6_lotRefusal 23 = .ok (.ifCond .ne 6, 3) := by decide +kernel
theorem dX6_lotRefusal_26 : decode cX6_lotRefusal 26 = .ok (.bipush (-2), 2) := by decide +kernel
theorem dX6_lotRefusal_28 : decode cX6_lotRefusal 28 = .ok (.ireturn, 1) := by decide +kernel
theorem dX6_lotRefusal_29 : decode cX6_lotRefusal 29 = .ok (.aload_n 0, 1) := by decide +kernel
theorem dX6_lotRefusal_30 : decode cX6_lotRefusal 30 = .ok (.getfield 34, 3) := by decide +kernel
theorem dX6_lotRefusal_33 : decode cX6_lotRefusal 33 = .ok (.getfield 124, 3) := by decide +kernel
theorem dX6_lotRefusal_36 : decode cX6_lotRefusal 36 = .ok (.ifCond .eq 8, 3) := by decide +kernel
theorem dX6_lotRefusal_39 : decode cX6_lotRefusal 39 = .ok (.bipush (-3), 2) := by decide +kernel
theorem dX6_lotRefusal_41 : decode cX6_lotRefusal 41 = .ok (.goto 4, 3) := by decide +kernel
theorem dX6_lotRefusal_44 : decode cX6_lotRefusal 44 = .ok (.iconst 0, 1) := by decide +kernel
theorem dX6_lotRefusal_45 : decode cX6_lotRefusal 45 = .ok (.ireturn, 1) := by decide +kernel
theorem dX6_layList_0 : decode cX6_layList 0 = .ok (.aload_n 0, 1) := by decide +kernel
theorem dX6_layList_1 : decode cX6_layList 1 = .ok (.getfield 44, 3) := by decide +kernel
theorem dX6_layList_4 : decode cX6_layList 4 = .ok (.aload_n 0, 1) := by decide +kernel
theorem dX6_layList_5 : decode cX6_layList 5 = .ok (.getfield 34, 3) := by decide +kernel
theorem dX6_layList_8 : decode cX6_layList 8 = .ok (.invokevirtual 265, 3) := by decide +kernel
theorem dX6_layList_11 : decode cX6_layList 11 = .ok (.aload_n 0, 1) := by decide +kernel
theorem dX6_layList_12 : decode cX6_layList 12 = .ok (.getfield 34, 3) := by decide +kernel
theorem dX6_layList_15 : decode cX6_layList 15 = .ok (.getfield 121, 3) := by decide +kernel
theorem dX6_layList_18 : decode cX6_layList 18 = .ok (.aload_n 0, 1) := by decide +kernel
theorem dX6_layList_19 : decode cX6_layList 19 = .ok (.getfield 34, 3) := by decide +kernel
theorem dX6_layList_22 : decode cX6_layList 22 = .ok (.getfield 128, 3) := by decide +kernel
theorem dX6_layList_25 : decode cX6_layList 25 = .ok (.invokevirtual 268, 3) := by decide +kernel
theorem dX6_layList_28 : decode cX6_layList 28 = .ok (.return_, 1) := by decide +kernel
theorem dX6_waysToYes_0 : decode cX6_waysToYes 0 = .ok (.lconst 0, 1) := by decide +kernel
theorem dX6_waysToYes_1 : decode cX6_waysToYes 1 = .ok (.lstore_n 2, 1) := by decide +kernel
theorem dX6_waysToYes_2 : decode cX6_waysToYes 2 = .ok (.iconst 0, 1) := by decide +kernel
theorem dX6_waysToYes_3 : decode cX6_waysToYes 3 = .ok (.iload_n 1, 1) := by decide +kernel
theorem dX6_waysToYes_4 : decode cX6_waysToYes 4 = .ok (.aload_n 0, 1) := by decide +kernel
theorem dX6_waysToYes_5 : decode cX6_waysToYes 5 = .ok (.getfield 44, 3) := by decide +kernel
theorem dX6_waysToYes_8 : decode cX6_waysToYes 8 = .ok (.getfield 315, 3) := by decide +kernel
theorem dX6_waysToYes_11 : decode cX6_waysToYes 11 = .ok (.isub, 1) := by decide +kernel
theorem dX6_waysToYes_12 : decode cX6_waysToYes 12 = .ok (.invokestatic 248, 3) := by decide +kernel
theorem dX6_waysToYes_15 : decode cX6_waysToYes 15 = .ok (.istore 4, 2) := by decide +kernel
theorem dX6_waysToYes_17 : decode cX6_waysToYes 17 = .ok (.iload 4, 2) := by decide +kernel
theorem dX6_waysToYes_19 : decode cX6_waysToYes 19 = .ok (.iload_n 1, 1) := by decide +kernel
theorem dX6_waysToYes_20 : decode cX6_waysToYes 20 = .ok (.aload_n 0, 1) := by decide +kernel
theorem dX6_waysToYes_21 : decode cX6_waysToYes 21 = .ok (.getfield 44, 3) := by decide +kernel
theorem dX6_waysToYes_24 : decode cX6_waysToYes 24 = .ok (.invokevirtual 316, 3) := by decide +kernel
theorem dX6_waysToYes_27 : decode cX6_waysToYes 27 = .ok (.invokestatic 260, 3) := by decide +kernel
theorem dX6_waysToYes_30 : decode cX6_waysToYes 30 = .ok (.if_icmp .gt 88, 3) := by decide +kernel
theorem dX6_waysToYes_33 : decode cX6_waysToYes 33 = .ok (.aload_n 0, 1) := by decide +kernel
theorem dX6_waysToYes_34 : decode cX6_waysToYes 34 = .ok (.getfield 44, 3) := by decide +kernel
theorem dX6_waysToYes_37 : decode cX6_waysToYes 37 = .ok (.iload 4, 2) := by decide +kernel
theorem dX6_waysToYes_39 : decode cX6_waysToYes 39 = .ok (.invokevirtual 317, 3) := by decide +kernel
theorem dX6_waysToYes_42 : decode cX6_waysToYes 42 = .ok (.istore 5, 2) := by decide +kernel
theorem dX6_waysToYes_44 : decode cX6_waysToYes 44 = .ok (.iload 5, 2) := by decide +kernel
theorem dX6_waysToYes_46 : decode cX6_waysToYes 46 = .ok (.aload_n 0, 1) := by decide +kernel
theorem dX6_waysToYes_47 : decode cX6_waysToYes 47 = .ok (.getfield 44, 3) := by decide +kernel
theorem dX6_waysToYes_50 : decode cX6_waysToYes 50 = .ok (.getfield 320, 3) := by decide +kernel
theorem dX6_waysToYes_53 : decode cX6_waysToYes 53 = .ok (.if_icmp .gt 59, 3) := by decide +kernel
theorem dX6_waysToYes_56 : decode cX6_waysToYes 56 = .ok (.iconst 2, 1) := by decide +kernel
theorem dX6_waysToYes_57 : decode cX6_waysToYes 57 = .ok (.iload 5, 2) := by decide +kernel
theorem dX6_waysToYes_59 : decode cX6_waysToYes 59 = .ok (.imul, 1) := by decide +kernel
theorem dX6_waysToYes_60 : decode cX6_waysToYes 60 = .ok (.iload 4, 2) := by decide +kernel
theorem dX6_waysToYes_62 : decode cX6_waysToYes 62 = .ok (.if_icmp .gt 50, 3) := by decide +kernel
theorem dX6_waysToYes_65 : decode cX6_waysToYes 65 = .ok (.aload_n 0, 1) := by decide +kernel
theorem dX6_waysToYes_66 : decode cX6_waysToYes 66 = .ok (.getfield 51, 3) := by decide +kernel
theorem dX6_waysToYes_69 : decode cX6_waysToYes 69 = .ok (.aload_n 0, 1) := by decide +kernel
theorem dX6_waysToYes_70 : decode cX6_waysToYes 70 = .ok (.getfield 21, 3) := by decide +kernel
theorem dX6_waysToYes_73 : decode cX6_waysToYes 73 = .ok (.aload_n 0, 1) := by decide +kernel
theorem dX6_waysToYes_74 : decode cX6_waysToYes 74 = .ok (.getfield 44, 3) := by decide +kernel
theorem dX6_waysToYes_77 : decode cX6_waysToYes 77 = .ok (.invokevirtual 274, 3) := by decide +kernel
theorem dX6_waysToYes_80 : decode cX6_waysToYes 80 = .ok (.iload_n 1, 1) := by decide +kernel
theorem dX6_waysToYes_81 : decode cX6_waysToYes 81 = .ok (.iload 4, 2) := by decide +kernel
theorem dX6_waysToYes_83 : decode cX6_waysToYes 83 = .ok (.iload 5, 2) := by decide +kernel
theorem dX6_waysToYes_85 : decode cX6_waysToYes 85 = .ok (.invokevirtual 321, 3) := by decide +kernel
theorem dX6_waysToYes_88 : decode cX6_waysToYes 88 = .ok (.ifCond .eq 18, 3) := by decide +kernel
theorem dX6_waysToYes_91 : decode cX6_waysToYes 91 = .ok (.lload_n 2, 1) := by decide +kernel
theorem dX6_waysToYes_92 : decode cX6_waysToYes 92 = .ok (.aload_n 0, 1) := by decide +kernel
theorem dX6_waysToYes_93 : decode cX6_waysToYes 93 = .ok (.getfield 44, 3) := by decide +kernel
theorem dX6_waysToYes_96 : decode cX6_waysToYes 96 = .ok (.iload_n 1, 1) := by decide +kernel
theorem dX6_waysToYes_97 : decode cX6_waysToYes 97 = .ok (.iload 4, 2) := by decide +kernel
theorem dX6_waysToYes_99 : decode cX6_waysToYes 99 = .ok (.iload 5, 2) := by decide +kernel
theorem dX6_waysToYes_101 : decode cX6_waysToYes 101 = .ok (.invokevirtual 325, 3) := by decide +kernel
theorem dX6_waysToYes_104 : decode cX6_waysToYes 104 = .ok (.ladd, 1) := by decide +kernel
theorem dX6_waysToYes_105 : decode cX6_waysToYes 105 = .ok (.lstore_n 2, 1) := by decide +kernel
theorem dX6_waysToYes_106 : decode cX6_waysToYes 106 = .ok (.iinc 5 1, 3) := by decide +kernel
theorem dX6_waysToYes_109 : decode cX6_waysToYes 109 = .ok (.goto (-65), 3) := by decide +kernel
theorem dX6_waysToYes_112 : decode cX6_waysToYes 112 = .ok (.iinc 4 1, 3) := by decide +kernel
theorem dX6_waysToYes_115 : decode cX6_waysToYes 115 = .ok (.goto (-98), 3) := by decide +kernel
theorem dX6_waysToYes_118 : decode cX6_waysToYes 118 = .ok (.lload_n 2, 1) := by decide +kernel
theorem dX6_waysToYes_119 : decode cX6_waysToYes 119 = .ok (.lreturn, 1) := by decide +kernel
theorem dX6_waysToBeWrong_0 : decode cX6_waysToBeWrong 0 = .ok (.aload_n 0, 1) := by decide +kernel
theorem dX6_waysToBeWrong_1 : decode cX6_waysToBeWrong 1 = .ok (.iload_n 1, 1) := by decide +kernel
theorem dX6_waysToBeWrong_2 : decode cX6_waysToBeWrong 2 = .ok (.invokevirtual 180, 3) := by decide +kernel
theorem dX6_waysToBeWrong_5 : decode cX6_waysToBeWrong 5 = .ok (.lstore_n 2, 1) := by decide +kernel
theorem dX6_waysToBeWrong_6 : decode cX6_waysToBeWrong 6 = .ok (.aload_n 0, 1) := by decide +kernel
theorem dX6_waysToBeWrong_7 : decode cX6_waysToBeWrong 7 = .ok (.getfield 34, 3) := by decide +kernel
theorem dX6_waysToBeWrong_10 : decode cX6_waysToBeWrong 10 = .ok (.invokevirtual 131, 3) := by decide +kernel
theorem dX6_waysToBeWrong_13 : decode cX6_waysToBeWrong 13 = .ok (.aload_n 0, 1) := by decide +kernel
theorem dX6_waysToBeWrong_14 : decode cX6_waysToBeWrong 14 = .ok (.getfield 21, 3) := by decide +kernel
theorem dX6_waysToBeWrong_17 : decode cX6_waysToBeWrong 17 = .ok (.getfield 134, 3) := by decide +kernel
theorem dX6_waysToBeWrong_20 : decode cX6_waysToBeWrong 20 = .ok (.if_icmp .lt 23, 3) := by decide +kernel
theorem dX6_waysToBeWrong_23 : decode cX6_waysToBeWrong 23 = .ok (.aload_n 0, 1) := by decide +kernel
theorem dX6_waysToBeWrong_24 : decode cX6_waysToBeWrong 24 = .ok (.getfield 44, 3) := by decide +kernel
theorem dX6_waysToBeWrong_27 : decode cX6_waysToBeWrong 27 = .ok (.aload_n 0, 1) := by decide +kernel
theorem dX6_waysToBeWrong_28 : decode cX6_waysToBeWrong 28 = .ok (.getfield 34, 3) := by decide +kernel
theorem dX6_waysToBeWrong_31 : decode cX6_waysToBeWrong 31 = .ok (.getfield 118, 3) := by decide +kernel
theorem dX6_waysToBeWrong_34 : decode cX6_waysToBeWrong 34 = .ok (.iload_n 1, 1) := by decide +kernel
theorem dX6_waysToBeWrong_35 : decode cX6_waysToBeWrong 35 = .ok (.invokevirtual 183, 3) := by decide +kernel
theorem dX6_waysToBeWrong_38 : decode cX6_waysToBeWrong 38 = .ok (.lload_n 2, 1) := by decide +kernel
theorem dX6_waysToBeWrong_39 : decode cX6_waysToBeWrong 39 = .ok (.lsub, 1) := by decide +kernel
theorem dX6_waysToBeWrong_40 : decode cX6_waysToBeWrong 40 = .ok (.goto 4, 3) := by decide +kernel
theorem dX6_waysToBeWrong_43 : decode cX6_waysToBeWrong 43 = .ok (.lload_n 2, 1) := by decide +kernel
theorem dX6_waysToBeWrong_44 : decode cX6_waysToBeWrong 44 = .ok (.lreturn, 1) := by decide +kernel
theorem dX6_sheetWaysToYes_0 : decode cX6_sheetWaysToYes 0 = .ok (.iconst 0, 1) := by decide +kernel
theorem dX6_sheetWaysToYes_1 : decode cX6_sheetWaysToYes 1 = .ok (.istore_n 3, 1) := by decide +kernel
theorem dX6_sheetWaysToYes_2 : decode cX6_sheetWaysToYes 2 = .ok (.iconst 1, 1) := by decide +kernel
theorem dX6_sheetWaysToYes_3 : decode cX6_sheetWaysToYes 3 = .ok (.istore 4, 2) := by decide +kernel
theorem dX6_sheetWaysToYes_5 : decode cX6_sheetWaysToYes 5 = .ok (.iload 4, 2) := by decide +kernel
theorem dX6_sheetWaysToYes_7 : decode cX6_sheetWaysToYes 7 = .ok (.bipush 63, 2) := by decide +kernel
theorem dX6_sheetWaysToYes_9 : decode cX6_sheetWaysToYes 9 = .ok (.if_icmp .gt 55, 3) := by decide +kernel
theorem dX6_sheetWaysToYes_12 : decode cX6_sheetWaysToYes 12 = .ok (.iload 4, 2) := by decide +kernel
theorem dX6_sheetWaysToYes_14 : decode cX6_sheetWaysToYes 14 = .ok (.iload_n 1, 1) := by decide +kernel
theorem dX6_sheetWaysToYes_15 : decode cX6_sheetWaysToYes 15 = .ok (.iconst (-1), 1) := by decide +kernel
theorem dX6_sheetWaysToYes_16 : decode cX6_sheetWaysToYes 16 = .ok (.ixor, 1) := by decide +kernel
theorem dX6_sheetWaysToYes_17 : decode cX6_sheetWaysToYes 17 = .ok (.iand, 1) := by decide +kernel
theorem dX6_sheetWaysToYes_18 : decode cX6_sheetWaysToYes 18 = .ok (.ifCond .ne 40, 3) := by decide +kernel
theorem dX6_sheetWaysToYes_21 : decode cX6_sheetWaysToYes 21 = .ok (.iload 4, 2) := by decide +kernel
theorem dX6_sheetWaysToYes_23 : decode cX6_sheetWaysToYes 23 = .ok (.invokestatic 190, 3) := by decide +kernel
theorem dX6_sheetWaysToYes_26 : decode cX6_sheetWaysToYes 26 = .ok (.iload_n 2, 1) := by decide +kernel
theorem dX6_sheetWaysToYes_27 : decode cX6_sheetWaysToYes 27 = .ok (.if_icmp .ne 31, 3) := by decide +kernel
theorem dX6_sheetWaysToYes_30 : decode cX6_sheetWaysToYes 30 = .ok (.aload_n 0, 1) := by decide +kernel
theorem dX6_sheetWaysToYes_31 : decode cX6_sheetWaysToYes 31 = .ok (.getfield 38, 3) := by decide +kernel
theorem dX6_sheetWaysToYes_34 : decode cX6_sheetWaysToYes 34 = .ok (.aload_n 0, 1) := by decide +kernel
theorem dX6_sheetWaysToYes_35 : decode cX6_sheetWaysToYes 35 = .ok (.getfield 21, 3) := by decide +kernel
theorem dX6_sheetWaysToYes_38 : decode cX6_sheetWaysToYes 38 = .ok (.iload 4, 2) := by decide +kernel
theorem dX6_sheetWaysToYes_40 : decode cX6_sheetWaysToYes 40 = .ok (.invokevirtual 217, 3) := by decide +kernel
theorem dX6_sheetWaysToYes_43 : decode cX6_sheetWaysToYes 43 = .ok (.iload_n 3, 1) := by decide +kernel
theorem dX6_sheetWaysToYes_44 : decode cX6_sheetWaysToYes 44 = .ok (.aload_n 0, 1) := by decide +kernel
theorem dX6_sheetWaysToYes_45 : decode cX6_sheetWaysToYes 45 = .ok (.invokevirtual 280, 3) := by decide +kernel
theorem dX6_sheetWaysToYes_48 : decode cX6_sheetWaysToYes 48 = .ok (.ifCond .eq 7, 3) := by decide +kernel
theorem dX6_sheetWaysToYes_51 : decode cX6_sheetWaysToYes 51 = .ok (.iconst 1, 1) := by decide +kernel
theorem dX6_sheetWaysToYes_52 : decode cX6_sheetWaysToYes 52 = .ok (.goto 4, 3) := by decide +kernel
theorem dX6_sheetWaysToYes_55 : decode cX6_sheetWaysToYes 55 = .ok (.iconst 0, 1) := by decide +kernel
theorem dX6_sheetWaysToYes_56 : decode cX6_sheetWaysToYes 56 = .ok (.iadd, 1) := by decide +kernel
theorem dX6_sheetWaysToYes_57 : decode cX6_sheetWaysToYes 57 = .ok (.istore_n 3, 1) := by decide +kernel
theorem dX6_sheetWaysToYes_58 : decode cX6_sheetWaysToYes 58 = .ok (.iinc 4 1, 3) := by decide +kernel
theorem dX6_sheetWaysToYes_61 : decode cX6_sheetWaysToYes 61 = .ok (.goto (-56), 3) := by decide +kernel
theorem dX6_sheetWaysToYes_64 : decode cX6_sheetWaysToYes 64 = .ok (.iload_n 3, 1) := by decide +kernel
theorem dX6_sheetWaysToYes_65 : decode cX6_sheetWaysToYes 65 = .ok (.ireturn, 1) := by decide +kernel
theorem dX6_someSaysYes_0 : decode cX6_someSaysYes 0 = .ok (.aload_n 0, 1) := by decide +kernel
theorem dX6_someSaysYes_1 : decode cX6_someSaysYes 1 = .ok (.getfield 51, 3) := by decide +kernel
theorem dX6_someSaysYes_4 : decode cX6_someSaysYes 4 = .ok (.aload_n 0, 1) := by decide +kernel
theorem dX6_someSaysYes_5 : decode cX6_someSaysYes 5 = .ok (.getfield 21, 3) := by decide +kernel
theorem dX6_someSaysYes_8 : decode cX6_someSaysYes 8 = .ok (.aload_n 0, 1) := by decide +kernel
theorem dX6_someSaysYes_9 : decode cX6_someSaysYes 9 = .ok (.getfield 34, 3) := by decide +kernel
theorem dX6_someSaysYes_12 : decode cX6_someSaysYes 12 = .ok (.getfield 118, 3) := by decide +kernel
theorem dX6_someSaysYes_15 : decode cX6_someSaysYes 15 = .ok (.aload_n 0, 1) := by decide +kernel
theorem dX6_someSaysYes_16 : decode cX6_someSaysYes 16 = .ok (.getfield 38, 3) := by decide +kernel
theorem dX6_someSaysYes_19 : decode cX6_someSaysYes 19 = .ok (.getfield 118, 3) := by decide +kernel
theorem dX6_someSaysYes_22 : decode cX6_someSaysYes 22 = .ok (.aload_n 0, 1) := by decide +kernel
theorem dX6_someSaysYes_23 : decode cX6_someSaysYes 23 = .ok (.getfield 38, 3) := by decide +kernel
theorem dX6_someSaysYes_26 : decode cX6_someSaysYes 26 = .ok (.invokevirtual 251, 3) := by decide +kernel
theorem dX6_someSaysYes_29 : decode cX6_someSaysYes 29 = .ok (.aload_n 0, 1) := by decide +kernel
theorem dX6_someSaysYes_30 : decode cX6_someSaysYes 30 = .ok (.getfield 38, 3) := by decide +kernel
theorem dX6_someSaysYes_33 : decode cX6_someSaysYes 33 = .ok (.getfield 128, 3) := by decide +kernel
theorem dX6_someSaysYes_36 : decode cX6_someSaysYes 36 = .ok (.invokevirtual 321, 3) := by decide +kernel
theorem dX6_someSaysYes_39 : decode cX6_someSaysYes 39 = .ok (.ireturn, 1) := by decide +kernel
theorem dX6_thousandths_0 : decode cX6_thousandths 0 = .ok (.lload_n 0, 1) := by decide +kernel
theorem dX6_thousandths_1 : decode cX6_thousandths 1 = .ok (.ldc2_w 329, 3) := by decide +kernel
theorem dX6_thousandths_4 : decode cX6_thousandths 4 = .ok (.ldiv, 1) := by decide +kernel
theorem dX6_thousandths_5 : decode cX6_thousandths 5 = .ok (.iload_n 2, 1) := by decide +kernel
theorem dX6_thousandths_6 : decode cX6_thousandths 6 = .ok (.i2l, 1) := by decide +kernel
theorem dX6_thousandths_7 : decode cX6_thousandths 7 = .ok (.lmul, 1) := by decide +kernel
theorem dX6_thousandths_8 : decode cX6_thousandths 8 = .ok (.lload_n 0, 1) := by decide +kernel
theorem dX6_thousandths_9 : decode cX6_thousandths 9 = .ok (.ldc2_w 329, 3) := by decide +kernel
theorem dX6_thousandths_12 : decode cX6_thousandths 12 = .ok (.lrem, 1) := by decide +kernel
theorem dX6_thousandths_13 : decode cX6_thousandths 13 = .ok (.iload_n 2, 1) := by decide +kernel
theorem dX6_thousandths_14 : decode cX6_thousandths 14 = .ok (.i2l, 1) := by decide +kernel
theorem dX6_thousandths_15 : decode cX6_thousandths 15 = .ok (.lmul, 1) := by decide +kernel
theorem dX6_thousandths_16 : decode cX6_thousandths 16 = .ok (.ldc2_w 329, 3) := by decide +kernel
theorem dX6_thousandths_19 : decode cX6_thousandths 19 = .ok (.ldiv, 1) := by decide +kernel
theorem dX6_thousandths_20 : decode cX6_thousandths 20 = .ok (.ladd, 1) := by decide +kernel
theorem dX6_thousandths_21 : decode cX6_thousandths 21 = .ok (.lreturn, 1) := by decide +kernel
theorem dX6_oddsByLot_0 : decode cX6_oddsByLot 0 = .ok (.aload_n 0, 1) := by decide +kernel
theorem dX6_oddsByLot_1 : decode cX6_oddsByLot 1 = .ok (.getfield 38, 3) := by decide +kernel
theorem dX6_oddsByLot_4 : decode cX6_oddsByLot 4 = .ok (.aload_n 0, 1) := by decide +kernel
theorem dX6_oddsByLot_5 : decode cX6_oddsByLot 5 = .ok (.getfield 21, 3) := by decide +kernel
theorem dX6_oddsByLot_8 : decode cX6_oddsByLot 8 = .ok (.aload_n 0, 1) := by decide +kernel
theorem dX6_oddsByLot_9 : decode cX6_oddsByLot 9 = .ok (.iload_n 1, 1) := by decide +kernel
theorem dX6_oddsByLot_10 : decode cX6_oddsByLot 10 = .ok (.invokevirtual 214, 3) := by decide +kernel
theorem dX6_oddsByLot_13 : decode cX6_oddsByLot 13 = .ok (.invokevirtual 217, 3) := by decide +kernel
theorem dX6_oddsByLot_16 : decode cX6_oddsByLot 16 = .ok (.lconst 0, 1) := by decide +kernel
theorem dX6_oddsByLot_17 : decode cX6_oddsByLot 17 = .ok (.lstore_n 3, 1) := by decide +kernel
theorem dX6_oddsByLot_18 : decode cX6_oddsByLot 18 = .ok (.aload_n 0, 1) := by decide +kernel
theorem dX6_oddsByLot_19 : decode cX6_oddsByLot 19 = .ok (.getfield 38, 3) := by decide +kernel
theorem dX6_oddsByLot_22 : decode cX6_oddsByLot 22 = .ok (.getfield 121, 3) := by decide +kernel
theorem dX6_oddsByLot_25 : decode cX6_oddsByLot 25 = .ok (.istore 5, 2) := by decide +kernel
theorem dX6_oddsByLot_27 : decode cX6_oddsByLot 27 = .ok (.iload 5, 2) := by decide +kernel
theorem dX6_oddsByLot_29 : decode cX6_oddsByLot 29 = .ok (.aload_n 0, 1) := by decide +kernel
theorem dX6_oddsByLot_30 : decode cX6_oddsByLot 30 = .ok (.getfield 38, 3) := by decide +kernel
theorem dX6_oddsByLot_33 : decode cX6_oddsByLot 33 = .ok (.getfield 118, 3) := by decide +kernel
theorem dX6_oddsByLot_36 : decode cX6_oddsByLot 36 = .ok (.if_icmp .gt 53, 3) := by decide +kernel
theorem dX6_oddsByLot_39 : decode cX6_oddsByLot 39 = .ok (.lload_n 3, 1) := by decide +kernel
theorem dX6_oddsByLot_40 : decode cX6_oddsByLot 40 = .ok (.aload_n 0, 1) := by decide +kernel
theorem dX6_oddsByLot_41 : decode cX6_oddsByLot 41 = .ok (.getfield 44, 3) := by decide +kernel
theorem dX6_oddsByLot_44 : decode cX6_oddsByLot 44 = .ok (.aload_n 0, 1) := by decide +kernel
theorem dX6_oddsByLot_45 : decode cX6_oddsByLot 45 = .ok (.getfield 34, 3) := by decide +kernel
theorem dX6_oddsByLot_48 : decode cX6_oddsByLot 48 = .ok (.getfield 121, 3) := by decide +kernel
theorem dX6_oddsByLot_51 : decode cX6_oddsByLot 51 = .ok (.iload 5, 2) := by decide +kernel
theorem dX6_oddsByLot_53 : decode cX6_oddsByLot 53 = .ok (.invokevirtual 183, 3) := by decide +kernel
theorem dX6_oddsByLot_56 : decode cX6_oddsByLot 56 = .ok (.aload_n 0, 1) := by decide +kernel
theorem dX6_oddsByLot_57 : decode cX6_oddsByLot 57 = .ok (.getfield 44, 3) := by decide +kernel
theorem dX6_oddsByLot_60 : decode cX6_oddsByLot 60 = .ok (.aload_n 0, 1) := by decide +kernel
theorem dX6_oddsByLot_61 : decode cX6_oddsByLot 61 = .ok (.getfield 34, 3) := by decide +kernel
theorem dX6_oddsByLot_64 : decode cX6_oddsByLot 64 = .ok (.invokevirtual 251, 3) := by decide +kernel
theorem dX6_oddsByLot_67 : decode cX6_oddsByLot 67 = .ok (.aload_n 0, 1) := by decide +kernel
theorem dX6_oddsByLot_68 : decode cX6_oddsByLot 68 = .ok (.getfield 38, 3) := by decide +kernel
theorem dX6_oddsByLot_71 : decode cX6_oddsByLot 71 = .ok (.getfield 118, 3) := by decide +kernel
theorem dX6_oddsByLot_74 : decode cX6_oddsByLot 74 = .ok (.iload 5, 2) := by decide +kernel
theorem dX6_oddsByLot_76 : decode cX6_oddsByLot 76 = .ok (.isub, 1) := by decide +kernel
theorem dX6_oddsByLot_77 : decode cX6_oddsByLot 77 = .ok (.invokevirtual 183, 3) := by decide +kernel
theorem dX6_oddsByLot_80 : decode cX6_oddsByLot 80 = .ok (.lmul, 1) := by decide +kernel
theorem dX6_oddsByLot_81 : decode cX6_oddsByLot 81 = .ok (.ladd, 1) := by decide +kernel
theorem dX6_oddsByLot_82 : decode cX6_oddsByLot 82 = .ok (.lstore_n 3, 1) := by decide +kernel
theorem dX6_oddsByLot_83 : decode cX6_oddsByLot 83 = .ok (.iinc 5 1, 3) := by decide +kernel
theorem dX6_oddsByLot_86 : decode cX6_oddsByLot 86 = .ok (.goto (-59), 3) := by decide +kernel
theorem dX6_oddsByLot_89 : decode cX6_oddsByLot 89 = .ok (.aload_n 2, 1) := by decide +kernel
theorem dX6_oddsByLot_90 : decode cX6_oddsByLot 90 = .ok (.lload_n 3, 1) := by decide +kernel
theorem dX6_oddsByLot_91 : decode cX6_oddsByLot 91 = .ok (.aload_n 0, 1) := by decide +kernel
theorem dX6_oddsByLot_92 : decode cX6_oddsByLot 92 = .ok (.getfield 44, 3) := by decide +kernel
theorem dX6_oddsByLot_95 : decode cX6_oddsByLot 95 = .ok (.aload_n 0, 1) := by decide +kernel
theorem dX6_oddsByLot_96 : decode cX6_oddsByLot 96 = .ok (.getfield 34, 3) := by decide +kernel
theorem dX6_oddsByLot_99 : decode cX6_oddsByLot 99 = .ok (.getfield 118, 3) := by decide +kernel
theorem dX6_oddsByLot_102 : decode cX6_oddsByLot 102 = .ok (.aload_n 0, 1) := by decide +kernel
theorem dX6_oddsByLot_103 : decode cX6_oddsByLot 103 = .ok (.getfield 38, 3) := by decide +kernel
theorem dX6_oddsByLot_106 : decode cX6_oddsByLot 106 = .ok (.getfield 118, 3) := by decide +kernel
theorem dX6_oddsByLot_109 : decode cX6_oddsByLot 109 = .ok (.invokevirtual 183, 3) := by decide +kernel
theorem dX6_oddsByLot_112 : decode cX6_oddsByLot 112 = .ok (.invokevirtual 165, 3) := by decide +kernel
theorem dX6_oddsByLot_115 : decode cX6_oddsByLot 115 = .ok (.return_, 1) := by decide +kernel
theorem dX6_drawHeap_0 : decode cX6_drawHeap 0 = .ok (.aload_n 0, 1) := by decide +kernel
theorem dX6_drawHeap_1 : decode cX6_drawHeap 1 = .ok (.invokevirtual 331, 3) := by decide +kernel
theorem dX6_drawHeap_4 : decode cX6_drawHeap 4 = .ok (.istore_n 3, 1) := by decide +kernel
theorem dX6_drawHeap_5 : decode cX6_drawHeap 5 = .ok (.iload_n 1, 1) := by decide +kernel
theorem dX6_drawHeap_6 : decode cX6_drawHeap 6 = .ok (.istore 4, 2) := by decide +kernel
theorem dX6_drawHeap_8 : decode cX6_drawHeap 8 = .ok (.aload_n 0, 1) := by decide +kernel
theorem dX6_drawHeap_9 : decode cX6_drawHeap 9 = .ok (.getfield 38, 3) := by decide +kernel
theorem dX6_drawHeap_12 : decode cX6_drawHeap 12 = .ok (.invokevirtual 334, 3) := by decide +kernel
theorem dX6_drawHeap_15 : decode cX6_drawHeap 15 = .ok (.iconst 0, 1) := by decide +kernel
theorem dX6_drawHeap_16 : decode cX6_drawHeap 16 = .ok (.istore 5, 2) := by decide +kernel
theorem dX6_drawHeap_18 : decode cX6_drawHeap 18 = .ok (.iload 5, 2) := by decide +kernel
theorem dX6_drawHeap_20 : decode cX6_drawHeap 20 = .ok (.iload_n 2, 1) := by decide +kernel
theorem dX6_drawHeap_21 : decode cX6_drawHeap 21 = .ok (.if_icmp .ge 46, 3) := by decide +kernel
theorem dX6_drawHeap_24 : decode cX6_drawHeap 24 = .ok (.iload_n 3, 1) := by decide +kernel
theorem dX6_drawHeap_25 : decode cX6_drawHeap 25 = .ok (.ifCond .le 42, 3) := by decide +kernel
theorem dX6_drawHeap_28 : decode cX6_drawHeap 28 = .ok (.iload 4, 2) := by decide +kernel
theorem dX6_drawHeap_30 : decode cX6_drawHeap 30 = .ok (.bipush 75, 2) := by decide +kernel
theorem dX6_drawHeap_32 : decode cX6_drawHeap 32 = .ok (.imul, 1) := by decide +kernel
theorem dX6_drawHeap_33 : decode cX6_drawHeap 33 = .ok (.bipush 74, 2) := by decide +kernel
theorem dX6_drawHeap_35 : decode cX6_drawHeap 35 = .ok (.iadd, 1) := by decide +kernel
theorem dX6_drawHeap_36 : decode cX6_drawHeap 36 = .ok (.ldc_w 335, 3) := by decide +kernel
theorem dX6_drawHeap_39 : decode cX6_drawHeap 39 = .ok (.irem, 1) := by decide +kernel
theorem dX6_drawHeap_40 : decode cX6_drawHeap 40 = .ok (.istore 4, 2) := by decide +kernel
theorem dX6_drawHeap_42 : decode cX6_drawHeap 42 = .ok (.aload_n 0, 1) := by decide +kernel
theorem dX6_drawHeap_43 : decode cX6_drawHeap 43 = .ok (.getfield 38, 3) := by decide +kernel
theorem dX6_drawHeap_46 : decode cX6_drawHeap 46 = .ok (.aload_n 0, 1) := by decide +kernel
theorem dX6_drawHeap_47 : decode cX6_drawHeap 47 = .ok (.iload 4, 2) := by decide +kernel
theorem dX6_drawHeap_49 : decode cX6_drawHeap 49 = .ok (.iload_n 3, 1) := by decide +kernel
theorem dX6_drawHeap_50 : decode cX6_drawHeap 50 = .ok (.irem, 1) := by decide +kernel
theorem dX6_drawHeap_51 : decode cX6_drawHeap 51 = .ok (.iload_n 3, 1) := by decide +kernel
theorem dX6_drawHeap_52 : decode cX6_drawHeap 52 = .ok (.invokevirtual 336, 3) := by decide +kernel
theorem dX6_drawHeap_55 : decode cX6_drawHeap 55 = .ok (.invokevirtual 339, 3) := by decide +kernel
theorem dX6_drawHeap_58 : decode cX6_drawHeap 58 = .ok (.iinc 3 (-1), 3) := by decide +kernel
theorem dX6_drawHeap_61 : decode cX6_drawHeap 61 = .ok (.iinc 5 1, 3) := by decide +kernel
theorem dX6_drawHeap_64 : decode cX6_drawHeap 64 = .ok (.goto (-46), 3) := by decide +kernel
theorem dX6_drawHeap_67 : decode cX6_drawHeap 67 = .ok (.return_, 1) := by decide +kernel
theorem dX6_numberList_0 : decode cX6_numberList 0 = .ok (.iconst 0, 1) := by decide +kernel
theorem dX6_numberList_1 : decode cX6_numberList 1 = .ok (.istore_n 1, 1) := by decide +kernel
theorem dX6_numberList_2 : decode cX6_numberList 2 = .ok (.iconst 0, 1) := by decide +kernel
theorem dX6_numberList_3 : decode cX6_numberList 3 = .ok (.istore_n 2, 1) := by decide +kernel
theorem dX6_numberList_4 : decode cX6_numberList 4 = .ok (.iload_n 2, 1) := by decide +kernel
theorem dX6_numberList_5 : decode cX6_numberList 5 = .ok (.bipush 6, 2) := by decide +kernel
theorem dX6_numberList_7 : decode cX6_numberList 7 = .ok (.if_icmp .ge 76, 3) := by decide +kernel
theorem dX6_numberList_10 : decode cX6_numberList 10 = .ok (.aload_n 0, 1) := by decide +kernel
theorem dX6_numberList_11 : decode cX6_numberList 11 = .ok (.getfield 21, 3) := by decide +kernel
theorem dX6_numberList_14 : decode cX6_numberList 14 = .ok (.iload_n 2, 1) := by decide +kernel
theorem dX6_numberList_15 : decode cX6_numberList 15 = .ok (.invokevirtual 254, 3) := by decide +kernel
theorem dX6_numberList_18 : decode cX6_numberList 18 = .ok (.ifCond .eq 7, 3) := by decide +kernel
theorem dX6_numberList_21 : decode cX6_numberList 21 = .ok (.iconst 0, 1) := by decide +kernel
theorem dX6_numberList_22 : decode cX6_numberList 22 = .ok (.goto 11, 3) := by decide +kernel
theorem dX6_numberList_25 : decode cX6_numberList 25 = .ok (.aload_n 0, 1) := by decide +kernel
theorem dX6_numberList_26 : decode cX6_numberList 26 = .ok (.getfield 21, 3) := by decide +kernel
theorem dX6_numberList_29 : decode cX6_numberList 29 = .ok (.iload_n 2, 1) := by decide +kernel
theorem dX6_numberList_30 : decode cX6_numberList 30 = .ok (.invokevirtual 108, 3) := by decide +kernel
theorem dX6_numberList_33 : decode cX6_numberList 33 = .ok (.istore_n 3, 1) := by decide +kernel
theorem dX6_numberList_34 : decode cX6_numberList 34 = .ok (.iconst 0, 1) := by decide +kernel
theorem dX6_numberList_35 : decode cX6_numberList 35 = .ok (.istore 4, 2) := by decide +kernel
theorem dX6_numberList_37 : decode cX6_numberList 37 = .ok (.iload 4, 2) := by decide +kernel
theorem dX6_numberList_39 : decode cX6_numberList 39 = .ok (.iload_n 3, 1) := by decide +kernel
theorem dX6_numberList_40 : decode cX6_numberList 40 = .ok (.if_icmp .ge 37, 3) := by decide +kernel
theorem dX6_numberList_43 : decode cX6_numberList 43 = .ok (.iload_n 1, 1) := by decide +kernel
theorem dX6_numberList_44 : decode cX6_numberList 44 = .ok (.aload_n 0, 1) := by decide +kernel
theorem dX6_numberList_45 : decode cX6_numberList 45 = .ok (.getfield 65, 3) := by decide +kernel
theorem dX6_numberList_48 : decode cX6_numberList 48 = .ok (.arraylength, 1) := by decide +kernel
theorem dX6_numberList_49 : decode cX6_numberList 49 = .ok (.if_icmp .ge 28, 3) := by decide +kernel
theorem dX6_numberList_52 : decode cX6_numberList 52 = .ok (.aload_n 0, 1) := by decide +kernel
theorem dX6_numberList_53 : decode cX6_numberList 53 = .ok (.getfield 65, 3) := by decide +kernel
theorem dX6_numberList_56 : decode cX6_numberList 56 = .ok (.iload_n 1, 1) := by decide +kernel
theorem dX6_numberList_57 : decode cX6_numberList 57 = .ok (.aload_n 0, 1) := by decide +kernel
theorem dX6_numberList_58 : decode cX6_numberList 58 = .ok (.getfield 21, 3) := by decide +kernel
theorem dX6_numberList_61 : decode cX6_numberList 61 = .ok (.iload_n 2, 1) := by decide +kernel
theorem dX6_numberList_62 : decode cX6_numberList 62 = .ok (.iload 4, 2) := by decide +kernel
theorem dX6_numberList_64 : decode cX6_numberList 64 = .ok (.invokevirtual 112, 3) := by decide +kernel
theorem dX6_numberList_67 : decode cX6_numberList 67 = .ok (.iastore, 1) := by decide +kernel
theorem dX6_numberList_68 : decode cX6_numberList 68 = .ok (.iinc 1 1, 3) := by decide +kernel
theorem dX6_numberList_71 : decode cX6_numberList 71 = .ok (.iinc 4 1, 3) := by decide +kernel
theorem dX6_numberList_74 : decode cX6_numberList 74 = .ok (.goto (-37), 3) := by decide +kernel
theorem dX6_numberList_77 : decode cX6_numberList 77 = .ok (.iinc 2 1, 3) := by decide +kernel
theorem dX6_numberList_80 : decode cX6_numberList 80 = .ok (.goto (-76), 3) := by decide +kernel
theorem dX6_numberList_83 : decode cX6_numberList 83 = .ok (.iload_n 1, 1) := by decide +kernel
theorem dX6_numberList_84 : decode cX6_numberList 84 = .ok (.ireturn, 1) := by decide +kernel
theorem dX6_takeOut_0 : decode cX6_takeOut 0 = .ok (.iload_n 1, 1) := by decide +kernel
theorem dX6_takeOut_1 : decode cX6_takeOut 1 = .ok (.ifCond .lt 17, 3) := by decide +kernel
theorem dX6_takeOut_4 : decode cX6_takeOut 4 = .ok (.iload_n 1, 1) := by decide +kernel
theorem dX6_takeOut_5 : decode cX6_takeOut 5 = .ok (.iload_n 2, 1) := by decide +kernel
theorem dX6_takeOut_6 : decode cX6_takeOut 6 = .ok (.if_icmp .ge 12, 3) := by decide +kernel
theorem dX6_takeOut_9 : decode cX6_takeOut 9 = .ok (.iload_n 2, 1) := by decide +kernel
theorem dX6_takeOut_10 : decode cX6_takeOut 10 = .ok (.aload_n 0, 1) := by decide +kernel
theorem dX6_takeOut_11 : decode cX6_takeOut 11 = .ok (.getfield 65, 3) := by decide +kernel
theorem dX6_takeOut_14 : decode cX6_takeOut 14 = .ok (.arraylength, 1) := by decide +kernel
theorem dX6_takeOut_15 : decode cX6_takeOut 15 = .ok (.if_icmp .le 6, 3) := by decide +kernel
theorem dX6_takeOut_18 : decode cX6_takeOut 18 = .ok (.bipush (-6), 2) := by decide +kernel
theorem dX6_takeOut_20 : decode cX6_takeOut 20 = .ok (.ireturn, 1) := by decide +kernel
theorem dX6_takeOut_21 : decode cX6_takeOut 21 = .ok (.aload_n 0, 1) := by decide +kernel
theorem dX6_takeOut_22 : decode cX6_takeOut 22 = .ok (.getfield 65, 3) := by decide +kernel
theorem dX6_takeOut_25 : decode cX6_takeOut 25 = .ok (.iload_n 1, 1) := by decide +kernel
theorem dX6_takeOut_26 : decode cX6_takeOut 26 = .ok (.iaload, 1) := by decide +kernel
theorem dX6_takeOut_27 : decode cX6_takeOut 27 = .ok (.istore_n 3, 1) := by decide +kernel
theorem dX6_takeOut_28 : decode cX6_takeOut 28 = .ok (.iload_n 1, 1) := by decide +kernel
theorem dX6_takeOut_29 : decode cX6_takeOut 29 = .ok (.istore 4, 2) := by decide +kernel
theorem dX6_takeOut_31 : decode cX6_takeOut 31 = .ok (.iload 4, 2) := by decide +kernel
theorem dX6_takeOut_33 : decode cX6_takeOut 33 = .ok (.iconst 1, 1) := by decide +kernel
theorem dX6_takeOut_34 : decode cX6_takeOut 34 = .ok (.iadd, 1) := by decide +kernel
theorem dX6_takeOut_35 : decode cX6_takeOut 35 = .ok (.iload_n 2, 1) := by decide +kernel
theorem dX6_takeOut_36 : decode cX6_takeOut 36 = .ok (.if_icmp .ge 25, 3) := by decide +kernel
theorem dX6_takeOut_39 : decode cX6_takeOut 39 = .ok (.aload_n 0, 1) := by decide +kernel
theorem dX6_takeOut_40 : decode cX6_takeOut 40 = .ok (.getfield 65, 3) := by decide +kernel
theorem dX6_takeOut_43 : decode cX6_takeOut 43 = .ok (.iload 4, 2) := by decide +kernel
theorem dX6_takeOut_45 : decode cX6_takeOut 45 = .ok (.aload_n 0, 1) := by decide +kernel
theorem dX6_takeOut_46 : decode cX6_takeOut 46 = .ok (.getfield 65, 3) := by decide +kernel
theorem dX6_takeOut_49 : decode cX6_takeOut 49 = .ok (.iload 4, 2) := by decide +kernel
theorem dX6_takeOut_51 : decode cX6_takeOut 51 = .ok (.iconst 1, 1) := by decide +kernel
theorem dX6_takeOut_52 : decode cX6_takeOut 52 = .ok (.iadd, 1) := by decide +kernel
theorem dX6_takeOut_53 : decode cX6_takeOut 53 = .ok (.iaload, 1) := by decide +kernel
theorem dX6_takeOut_54 : decode cX6_takeOut 54 = .ok (.iastore, 1) := by decide +kernel
theorem dX6_takeOut_55 : decode cX6_takeOut 55 = .ok (.iinc 4 1, 3) := by decide +kernel
theorem dX6_takeOut_58 : decode cX6_takeOut 58 = .ok (.goto (-27), 3) := by decide +kernel
theorem dX6_takeOut_61 : decode cX6_takeOut 61 = .ok (.iload_n 3, 1) := by decide +kernel
theorem dX6_takeOut_62 : decode cX6_takeOut 62 = .ok (.ireturn, 1) := by decide +kernel
theorem dX7_init_0 : decode cX7_init 0 = .ok (.aload_n 0, 1) := by decide +kernel
theorem dX7_init_1 : decode cX7_init 1 = .ok (.invokespecial 1, 3) := by decide +kernel
theorem dX7_init_4 : decode cX7_init 4 = .ok (.aload_n 0, 1) := by decide +kernel
theorem dX7_init_5 : decode cX7_init 5 = .ok (.bipush 16, 2) := by decide +kernel
theorem dX7_init_7 : decode cX7_init 7 = .ok (.newarray .int, 2) := by decide +kernel
theorem dX7_init_9 : decode cX7_init 9 = .ok (.putfield 7, 3) := by decide +kernel
theorem dX7_init_12 : decode cX7_init 12 = .ok (.aload_n 0, 1) := by decide +kernel
theorem dX7_init_13 : decode cX7_init 13 = .ok (.bipush 6, 2) := by decide +kernel
theorem dX7_init_15 : decode cX7_init 15 = .ok (.newarray .int, 2) := by decide +kernel
theorem dX7_init_17 : decode cX7_init 17 = .ok (.putfield 13, 3) := by decide +kernel
theorem dX7_init_20 : decode cX7_init 20 = .ok (.aload_n 0, 1) := by decide +kernel
theorem dX7_init_21 : decode cX7_init 21 = .ok (.bipush 6, 2) := by decide +kernel
theorem dX7_init_23 : decode cX7_init 23 = .ok (.newarray .int, 2) := by decide +kernel
theorem dX7_init_25 : decode cX7_init 25 = .ok (.putfield 16, 3) := by decide +kernel
theorem dX7_init_28 : decode cX7_init 28 = .ok (.aload_n 0, 1) := by decide +kernel
theorem dX7_init_29 : decode cX7_init 29 = .ok (.bipush 6, 2) := by decide +kernel
theorem dX7_init_31 : decode cX7_init 31 = .ok (.newarray .int, 2) := by decide +kernel
theorem dX7_init_33 : decode cX7_init 33 = .ok (.putfield 19, 3) := by decide +kernel
theorem dX7_init_36 : decode cX7_init 36 = .ok (.aload_n 0, 1) := by decide +kernel
theorem dX7_init_37 : decode cX7_init 37 = .ok (.bipush 60, 2) := by decide +kernel
theorem dX7_init_39 : decode cX7_init 39 = .ok (.newarray .int, 2) := by decide +kernel
theorem dX7_init_41 : decode cX7_init 41 = .ok (.putfield 22, 3) := by decide +kernel
theorem dX7_init_44 : decode cX7_init 44 = .ok (.aload_n 0, 1) := by decide +kernel
theorem dX7_init_45 : decode cX7_init 45 = .ok (.bipush 30, 2) := by decide +kernel
theorem dX7_init_47 : decode cX7_init 47 = .ok (.putfield 25, 3) := by decide +kernel
theorem dX7_init_50 : decode cX7_init 50 = .ok (.aload_n 0, 1) := by decide +kernel
theorem dX7_init_51 : decode cX7_init 51 = .ok (.bipush 11, 2) := by decide +kernel
theorem dX7_init_53 : decode cX7_init 53 = .ok (.putfield 29, 3) := by decide +kernel
theorem dX7_init_56 : decode cX7_init 56 = .ok (.aload_n 0, 1) := by decide +kernel
theorem dX7_init_57 : decode cX7_init 57 = .ok (.bipush 11, 2) := by decide +kernel
theorem dX7_init_59 : decode cX7_init 59 = .ok (.newarray .int, 2) := by decide +kernel
theorem dX7_init_61 : decode cX7_init 61 = .ok (.putfield 32, 3) := by decide +kernel
theorem dX7_init_64 : decode cX7_init 64 = .ok (.aload_n 0, 1) := by decide +kernel
theorem dX7_init_65 : decode cX7_init 65 = .ok (.sipush 3721, 3) := by decide +kernel
theorem dX7_init_68 : decode cX7_init 68 = .ok (.newarray .long, 2) := by decide +kernel
theorem dX7_init_70 : decode cX7_init 70 = .ok (.putfield 35, 3) := by decide +kernel
theorem dX7_init_73 : decode cX7_init 73 = .ok (.aload_n 0, 1) := by decide +kernel
theorem dX7_init_74 : decode cX7_init 74 = .ok (.bipush 26, 2) := by decide +kernel
theorem dX7_init_76 : decode cX7_init 76 = .ok (.newarray .int, 2) := by decide +kernel
theorem dX7_init_78 : decode cX7_init 78 = .ok (.putfield 39, 3) := by decide +kernel
theorem dX7_init_81 : decode cX7_init 81 = .ok (.aload_n 0, 1) := by decide +kernel
theorem dX7_init_82 : decode cX7_init 82 = .ok (.bipush 12, 2) := by decide +kernel
theorem dX7_init_84 : decode cX7_init 84 = .ok (.newarray .long, 2) := by decide +kernel
theorem dX7_init_86 : decode cX7_init 86 = .ok (.putfield 42, 3) := by decide +kernel
theorem dX7_init_89 : decode cX7_init 89 = .ok (.aload_n 0, 1) := by decide +kernel
theorem dX7_init_90 : decode cX7_init 90 = .ok (.bipush 12, 2) := by decide +kernel
theorem dX7_init_92 : decode cX7_init 92 = .ok (.newarray .long, 2) := by decide +kernel
theorem dX7_init_94 : decode cX7_init 94 = .ok (.putfield 45, 3) := by decide +kernel
theorem dX7_init_97 : decode cX7_init 97 = .ok (.aload_n 0, 1) := by decide +kernel
theorem dX7_init_98 : decode cX7_init 98 = .ok (.bipush 60, 2) := by decide +kernel
theorem dX7_init_100 : decode cX7_init 100 = .ok (.newarray .int, 2) := by decide +kernel
theorem dX7_init_102 : decode cX7_init 102 = .ok (.putfield 48, 3) := by decide +kernel
theorem dX7_init_105 : decode cX7_init 105 = .ok (.aload_n 0, 1) := by decide +kernel
theorem dX7_init_106 : decode cX7_init 106 = .ok (.sipush 184, 3) := by decide +kernel
theorem dX7_init_109 : decode cX7_init 109 = .ok (.newarray .int, 2) := by decide +kernel
theorem dX7_init_111 : decode cX7_init 111 = .ok (.putfield 51, 3) := by decide +kernel
theorem dX7_init_114 : decode cX7_init 114 = .ok (.aload_n 0, 1) := by decide +kernel
theorem dX7_init_115 : decode cX7_init 115 = .ok (.iconst 2, 1) := by decide +kernel
theorem dX7_init_116 : decode cX7_init 116 = .ok (.newarray .boolean, 2) := by decide +kernel
theorem dX7_init_118 : decode cX7_init 118 = .ok (.putfield 54, 3) := by decide +kernel
theorem dX7_init_121 : decode cX7_init 121 = .ok (.aload_n 0, 1) := by decide +kernel
theorem dX7_init_122 : decode cX7_init 122 = .ok (.getfield 32, 3) := by decide +kernel
theorem dX7_init_125 : decode cX7_init 125 = .ok (.iconst 0, 1) := by decide +kernel
theorem dX7_init_126 : decode cX7_init 126 = .ok (.bipush 45, 2) := by decide +kernel
theorem dX7_init_128 : decode cX7_init 128 = .ok (.iastore, 1) := by decide +kernel
theorem dX7_init_129 : decode cX7_init 129 = .ok (.aload_n 0, 1) := by decide +kernel
theorem dX7_init_130 : decode cX7_init 130 = .ok (.getfield 32, 3) := by decide +kernel
theorem dX7_init_133 : decode cX7_init 133 = .ok (.iconst 1, 1) := by decide +kernel
theorem dX7_init_134 : decode cX7_init 134 = .ok (.bipush 47, 2) := by decide +kernel
theorem dX7_init_136 : decode cX7_init 136 = .ok (.iastore, 1) := by decide +kernel
theorem dX7_init_137 : decode cX7_init 137 = .ok (.aload_n 0, 1) := by decide +kernel
theorem dX7_init_138 : decode cX7_init 138 = .ok (.getfield 32, 3) := by decide +kernel
theorem dX7_init_141 : decode cX7_init 141 = .ok (.iconst 2, 1) := by decide +kernel
theorem dX7_init_142 : decode cX7_init 142 = .ok (.bipush 42, 2) := by decide +kernel
theorem dX7_init_144 : decode cX7_init 144 = .ok (.iastore, 1) := by decide +kernel
theorem dX7_init_145 : decode cX7_init 145 = .ok (.aload_n 0, 1) := by decide +kernel
theorem dX7_init_146 : decode cX7_init 146 = .ok (.getfield 32, 3) := by decide +kernel
theorem dX7_init_149 : decode cX7_init 149 = .ok (.iconst 3, 1) := by decide +kernel
theorem dX7_init_150 : decode cX7_init 150 = .ok (.bipush 78, 2) := by decide +kernel
theorem dX7_init_152 : decode cX7_init 152 = .ok (.iastore, 1) := by decide +kernel
theorem dX7_init_153 : decode cX7_init 153 = .ok (.aload_n 0, 1) := by decide +kernel
theorem dX7_init_154 : decode cX7_init 154 = .ok (.getfield 32, 3) := by decide +kernel
theorem dX7_init_157 : decode cX7_init 157 = .ok (.iconst 4, 1) := by decide +kernel
theorem dX7_init_158 : decode cX7_init 158 = .ok (.bipush 118, 2) := by decide +kernel
theorem dX7_init_160 : decode cX7_init 160 = .ok (.iastore, 1) := by decide +kernel
theorem dX7_init_161 : decode cX7_init 161 = .ok (.aload_n 0, 1) := by decide +kernel
theorem dX7_init_162 : decode cX7_init 162 = .ok (.getfield 32, 3) := by decide +kernel
theorem dX7_init_165 : decode cX7_init 165 = .ok (.iconst 5, 1) := by decide +kernel
theorem dX7_init_166 : decode cX7_init 166 = .ok (.bipush 107, 2) := by decide +kernel
theorem dX7_init_168 : decode cX7_init 168 = .ok (.iastore, 1) := by decide +kernel
theorem dX7_init_169 : decode cX7_init 169 = .ok (.aload_n 0, 1) := by decide +kernel
theorem dX7_init_170 : decode cX7_init 170 = .ok (.getfield 32, 3) := by decide +kernel
theorem dX7_init_173 : decode cX7_init 173 = .ok (.bipush 6, 2) := by decide +kernel
theorem dX7_init_175 : decode cX7_init 175 = .ok (.bipush 47, 2) := by decide +kernel
theorem dX7_init_177 : decode cX7_init 177 = .ok (.iastore, 1) := by decide +kernel
theorem dX7_init_178 : decode cX7_init 178 = .ok (.aload_n 0, 1) := by decide +kernel
theorem dX7_init_179 : decode cX7_init 179 = .ok (.getfield 32, 3) := by decide +kernel
theorem dX7_init_182 : decode cX7_init 182 = .ok (.bipush 7, 2) := by decide +kernel
theorem dX7_init_184 : decode cX7_init 184 = .ok (.bipush 42, 2) := by decide +kernel
theorem dX7_init_186 : decode cX7_init 186 = .ok (.iastore, 1) := by decide +kernel
theorem dX7_init_187 : decode cX7_init 187 = .ok (.aload_n 0, 1) := by decide +kernel
theorem dX7_init_188 : decode cX7_init 188 = .ok (.getfield 32, 3) := by decide +kernel
theorem dX7_init_191 : decode cX7_init 191 = .ok (.bipush 8, 2) := by decide +kernel
theorem dX7_init_193 : decode cX7_init 193 = .ok (.bipush 100, 2) := by decide +kernel
theorem dX7_init_195 : decode cX7_init 195 = .ok (.iastore, 1) := by decide +kernel
theorem dX7_init_196 : decode cX7_init 196 = .ok (.aload_n 0, 1) := by decide +kernel
theorem dX7_init_197 : decode cX7_init 197 = .ok (.getfield 32, 3) := by decide +kernel
theorem dX7_init_200 : decode cX7_init 200 = .ok (.bipush 9, 2) := by decide +kernel
theorem dX7_init_202 : decode cX7_init 202 = .ok (.bipush 78, 2) := by decide +kernel
theorem dX7_init_204 : decode cX7_init 204 = .ok (.iastore, 1) := by decide +kernel
theorem dX7_init_205 : decode cX7_init 205 = .ok (.aload_n 0, 1) := by decide +kernel
theorem dX7_init_206 : decode cX7_init 206 = .ok (.getfield 32, 3) := by decide +kernel
theorem dX7_init_209 : decode cX7_init 209 = .ok (.bipush 10, 2) := by decide +kernel
theorem dX7_init_211 : decode cX7_init 211 = .ok (.bipush 107, 2) := by decide +kernel
theorem dX7_init_213 : decode cX7_init 213 = .ok (.iastore, 1) := by decide +kernel
theorem dX7_init_214 : decode cX7_init 214 = .ok (.iconst 0, 1) := by decide +kernel
theorem dX7_init_215 : decode cX7_init 215 = .ok (.istore_n 1, 1) := by decide +kernel
theorem dX7_init_216 : decode cX7_init 216 = .ok (.iload_n 1, 1) := by decide +kernel
theorem dX7_init_217 : decode cX7_init 217 = .ok (.bipush 60, 2) := by decide +kernel
theorem dX7_init_219 : decode cX7_init 219 = .ok (.if_icmp .gt 74, 3) := by decide +kernel
theorem dX7_init_222 : decode cX7_init 222 = .ok (.aload_n 0, 1) := by decide +kernel
theorem dX7_init_223 : decode cX7_init 223 = .ok (.getfield 35, 3) := by decide +kernel
theorem dX7_init_226 : decode cX7_init 226 = .ok (.bipush 61, 2) := by decide +kernel
theorem dX7_init_228 : decode cX7_init 228 = .ok (.iload_n 1, 1) := by decide +kernel
theorem dX7_init_229 : decode cX7_init 229 = .ok (.imul, 1) := by decide +kernel
theorem dX7_init_230 : decode cX7_init 230 = .ok (.lconst 1, 1) := by decide +kernel
theorem dX7_init_231 : decode cX7_init 231 = .ok (.lastore, 1) := by decide +kernel
theorem dX7_init_232 : decode cX7_init 232 = .ok (.iconst 1, 1) := by decide +kernel
theorem dX7_init_233 : decode cX7_init 233 = .ok (.istore_n 2, 1) := by decide +kernel
theorem dX7_init_234 : decode cX7_init 234 = .ok (.iload_n 2, 1) := by decide +kernel
theorem dX7_init_235 : decode cX7_init 235 = .ok (.iload_n 1, 1) := by decide +kernel
theorem dX7_init_236 : decode cX7_init 236 = .ok (.if_icmp .gt 51, 3) := by decide +kernel
theorem dX7_init_239 : decode cX7_init 239 = .ok (.aload_n 0, 1) := by decide +kernel
theorem dX7_init_240 : decode cX7_init 240 = .ok (.getfield 35, 3) := by decide +kernel
theorem dX7_init_243 : decode cX7_init 243 = .ok (.bipush 61, 2) := by decide +kernel
theorem dX7_init_245 : decode cX7_init 245 = .ok (.iload_n 1, 1) := by decide +kernel
theorem dX7_init_246 : decode cX7_init 246 = .ok (.imul, 1) := by decide +kernel
theorem dX7_init_247 : decode cX7_init 247 = .ok (.iload_n 2, 1) := by decide +kernel
theorem dX7_init_248 : decode cX7_init 248 = .ok (.iadd, 1) := by decide +kernel
theorem dX7_init_249 : decode cX7_init 249 = .ok (.aload_n 0, 1) := by decide +kernel
theorem dX7_init_250 : decode cX7_init 250 = .ok (.getfield 35, 3) := by decide +kernel
theorem dX7_init_253 : decode cX7_init 253 = .ok (.bipush 61, 2) := by decide +kernel
theorem dX7_init_255 : decode cX7_init 255 = .ok (.iload_n 1, 1) := by decide +kernel
theorem dX7_init_256 : decode cX7_init 256 = .ok (.imul, 1) := by decide +kernel
theorem dX7_init_257 : decode cX7_init 257 = .ok (.bipush 61, 2) := by decide +kernel
theorem dX7_init_259 : decode cX7_init 259 = .ok (.isub, 1) := by decide +kernel
theorem dX7_init_260 : decode cX7_init 260 = .ok (.iload_n 2, 1) := by decide +kernel
theorem dX7_init_261 : decode cX7_init 261 = .ok (.iadd, 1) := by decide +kernel
theorem dX7_init_262 : decode cX7_init 262 = .ok (.iconst 1, 1) := by decide +kernel
theorem dX7_init_263 : decode cX7_init 263 = .ok (.isub, 1) := by decide +kernel
theorem dX7_init_264 : decode cX7_init 264 = .ok (.laload, 1) := by decide +kernel
theorem dX7_init_265 : decode cX7_init 265 = .ok (.aload_n 0, 1) := by decide +kernel
theorem dX7_init_266 : decode cX7_init 266 = .ok (.getfield 35, 3) := by decide +kernel
theorem dX7_init_269 : decode cX7_init 269 = .ok (.bipush 61, 2) := by decide +kernel
theorem dX7_init_271 : decode cX7_init 271 = .ok (.iload_n 1, 1) := by decide +kernel
theorem dX7_init_272 : decode cX7_init 272 = .ok (.imul, 1) := by decide +kernel
theorem dX7_init_273 : decode cX7_init 273 = .ok (.bipush 61, 2) := by decide +kernel
theorem dX7_init_275 : decode cX7_init 275 = .ok (.isub, 1) := by decide +kernel
theorem dX7_init_276 : decode cX7_init 276 = .ok (.iload_n 2, 1) := by decide +kernel
theorem dX7_init_277 : decode cX7_init 277 = .ok (.iadd, 1) := by decide +kernel
theorem dX7_init_278 : decode cX7_init 278 = .ok (.laload, 1) := by decide +kernel
theorem dX7_init_279 : decode cX7_init 279 = .ok (.ladd, 1) := by decide +kernel
theorem dX7_init_280 : decode cX7_init 280 = .ok (.lastore, 1) := by decide +kernel
theorem dX7_init_281 : decode cX7_init 281 = .ok (.iinc 2 1, 3) := by decide +kernel
theorem dX7_init_284 : decode cX7_init 284 = .ok (.goto (-50), 3) := by decide +kernel
theorem dX7_init_287 : decode cX7_init 287 = .ok (.iinc 1 1, 3) := by decide +kernel
theorem dX7_init_290 : decode cX7_init 290 = .ok (.goto (-74), 3) := by decide +kernel
theorem dX7_init_293 : decode cX7_init 293 = .ok (.return_, 1) := by decide +kernel
theorem dX7_in_0 : decode cX7_in 0 = .ok (.iload_n 0, 1) := by decide +kernel
theorem dX7_in_1 : decode cX7_in 1 = .ok (.iload_n 1, 1) := by decide +kernel
theorem dX7_in_2 : decode cX7_in 2 = .ok (.if_icmp .lt 12, 3) := by decide +kernel
theorem dX7_in_5 : decode cX7_in 5 = .ok (.iload_n 0, 1) := by decide +kernel
theorem dX7_in_6 : decode cX7_in 6 = .ok (.iload_n 2, 1) := by decide +kernel
theorem dX7_in_7 : decode cX7_in 7 = .ok (.if_icmp .gt 7, 3) := by decide +kernel
theorem dX7_in_10 : decode cX7_in 10 = .ok (.iconst 1, 1) := by decide +kernel
theorem dX7_in_11 : decode cX7_in 11 = .ok (.goto 4, 3) := by decide +kernel
theorem dX7_in_14 : decode cX7_in 14 = .ok (.iconst 0, 1) := by decide +kernel
theorem dX7_in_15 : decode cX7_in 15 = .ok (.ireturn, 1) := by decide +kernel
theorem dX7_isSheet_0 : decode cX7_isSheet 0 = .ok (.iload_n 0, 1) := by decide +kernel
theorem dX7_isSheet_1 : decode cX7_isSheet 1 = .ok (.iconst 0, 1) := by decide +kernel
theorem dX7_isSheet_2 : decode cX7_isSheet 2 = .ok (.iconst 5, 1) := by decide +kernel
theorem dX7_isSheet_3 : decode cX7_isSheet 3 = .ok (.invokestatic 58, 3) := by decide +kernel
theorem dX7_isSheet_6 : decode cX7_isSheet 6 = .ok (.ireturn, 1) := by decide +kernel
theorem dX7_isPart_0 : decode cX7_isPart 0 = .ok (.iload_n 0, 1) := by decide +kernel
theorem dX7_isPart_1 : decode cX7_isPart 1 = .ok (.iconst 0, 1) := by decide +kernel
theorem dX7_isPart_2 : decode cX7_isPart 2 = .ok (.iconst 1, 1) := by decide +kernel
theorem dX7_isPart_3 : decode cX7_isPart 3 = .ok (.invokestatic 58, 3) := by decide +kernel
theorem dX7_isPart_6 : decode cX7_isPart 6 = .ok (.ireturn, 1) := by decide +kernel
theorem dX7_ways_0 : decode cX7_ways 0 = .ok (.iload_n 1, 1) := by decide +kernel
theorem dX7_ways_1 : decode cX7_ways 1 = .ok (.ifCond .lt 12, 3) := by decide +kernel
theorem dX7_ways_4 : decode cX7_ways 4 = .ok (.iload_n 2, 1) := by decide +kernel
theorem dX7_ways_5 : decode cX7_ways 5 = .ok (.ifCond .lt 8, 3) := by decide +kernel
theorem dX7_ways_8 : decode cX7_ways 8 = .ok (.iload_n 2, 1) := by decide +kernel
theorem dX7_ways_9 : decode cX7_ways 9 = .ok (.iload_n 1, 1) := by decide +kernel
theorem dX7_ways_10 : decode cX7_ways 10 = .ok (.if_icmp .le 7, 3) := by decide +kernel
theorem dX7_ways_13 : decode cX7_ways 13 = .ok (.lconst 0, 1) := by decide +kernel
theorem dX7_ways_14 : decode cX7_ways 14 = .ok (.goto 14, 3) := by decide +kernel
theorem dX7_ways_17 : decode cX7_ways 17 = .ok (.aload_n 0, 1) := by decide +kernel
theorem dX7_ways_18 : decode cX7_ways 18 = .ok (.getfield 35, 3) := by decide +kernel
theorem dX7_ways_21 : decode cX7_ways 21 = .ok (.bipush 61, 2) := by decide +kernel
theorem dX7_ways_23 : decode cX7_ways 23 = .ok (.iload_n 1, 1) := by decide +kernel
theorem dX7_ways_24 : decode cX7_ways 24 = .ok (.imul, 1) := by decide +kernel
theorem dX7_ways_25 : decode cX7_ways 25 = .ok (.iload_n 2, 1) := by decide +kernel
theorem dX7_ways_26 : decode cX7_ways 26 = .ok (.iadd, 1) := by decide +kernel
theorem dX7_ways_27 : decode cX7_ways 27 = .ok (.laload, 1) := by decide +kernel
theorem dX7_ways_28 : decode cX7_ways 28 = .ok (.lreturn, 1) := by decide +kernel
theorem dX7_common_0 : decode cX7_common 0 = .ok (.lload_n 0, 1) := by decide +kernel
theorem dX7_common_1 : decode cX7_common 1 = .ok (.lconst 0, 1) := by decide +kernel
theorem dX7_common_2 : decode cX7_common 2 = .ok (.lcmp, 1) := by decide +kernel
theorem dX7_common_3 : decode cX7_common 3 = .ok (.ifCond .ge 8, 3) := by decide +kernel
theorem dX7_common_6 : decode cX7_common 6 = .ok (.lload_n 0, 1) := by decide +kernel
theorem dX7_common_7 : decode cX7_common 7 = .ok (.lneg, 1) := by decide +kernel
theorem dX7_common_8 : decode cX7_common 8 = .ok (.goto 4, 3) := by decide +kernel
theorem dX7_common_11 : decode cX7_common 11 = .ok (.lload_n 0, 1) := by decide +kernel
theorem dX7_common_12 : decode cX7_common 12 = .ok (.lstore 4, 2) := by decide +kernel
theorem dX7_common_14 : decode cX7_common 14 = .ok (.lload_n 2, 1) := by decide +kernel
theorem dX7_common_15 : decode cX7_common 15 = .ok (.lstore 6, 2) := by decide +kernel
theorem dX7_common_17 : decode cX7_common 17 = .ok (.lload 6, 2) := by decide +kernel
theorem dX7_common_19 : decode cX7_common 19 = .ok (.lconst 0, 1) := by decide +kernel
theorem dX7_common_20 : decode cX7_common 20 = .ok (.lcmp, 1) := by decide +kernel
theorem dX7_common_21 : decode cX7_common 21 = .ok (.ifCond .eq 21, 3) := by decide +kernel
theorem dX7_common_24 : decode cX7_common 24 = .ok (.lload 4, 2) := by decide +kernel
theorem dX7_common_26 : decode cX7_common 26 = .ok (.lload 6, 2) := by decide +kernel
theorem dX7_common_28 : decode cX7_common 28 = .ok (.lrem, 1) := by decide +kernel
theorem dX7_common_29 : decode cX7_common 29 = .ok (.lstore 8, 2) := by decide +kernel
theorem dX7_common_31 : decode cX7_common 31 = .ok (.lload 6, 2) := by decide +kernel
theorem dX7_common_33 : decode cX7_common 33 = .ok (.lstore 4, 2) := by decide +kernel
theorem dX7_common_35 : decode cX7_common 35 = .ok (.lload 8, 2) := by decide +kernel
theorem dX7_common_37 : decode cX7_common 37 = .ok (.lstore 6, 2) := by decide +kernel
theorem dX7_common_39 : decode cX7_common 39 = .ok (.goto (-22), 3) := by decide +kernel
theorem dX7_common_42 : decode cX7_common 42 = .ok (.lload 4, 2) := by decide +kernel
theorem dX7_common_44 : decode cX7_common 44 = .ok (.lreturn, 1) := by decide +kernel
theorem dX7_term_0 : decode cX7_term 0 = .ok (.lload_n 0, 1) := by decide +kernel
theorem dX7_term_1 : decode cX7_term 1 = .ok (.lload_n 2, 1) := by decide +kernel
theorem dX7_term_2 : decode cX7_term 2 = .ok (.invokestatic 62, 3) := by decide +kernel
theorem dX7_term_5 : decode cX7_term 5 = .ok (.lstore 5, 2) := by decide +kernel
theorem dX7_term_7 : decode cX7_term 7 = .ok (.iload 4, 2) := by decide +kernel
theorem dX7_term_9 : decode cX7_term 9 = .ok (.ifCond .ne 10, 3) := by decide +kernel
theorem dX7_term_12 : decode cX7_term 12 = .ok (.lload_n 0, 1) := by decide +kernel
theorem dX7_term_13 : decode cX7_term 13 = .ok (.lload 5, 2) := by decide +kernel
theorem dX7_term_15 : decode cX7_term 15 = .ok (.ldiv, 1) := by decide +kernel
theorem dX7_term_16 : decode cX7_term 16 = .ok (.goto 7, 3) := by decide +kernel
theorem dX7_term_19 : decode cX7_term 19 = .ok (.lload_n 2, 1) := by decide +kernel
theorem dX7_term_20 : decode cX7_term 20 = .ok (.lload 5, 2) := by decide +kernel
theorem dX7_term_22 : decode cX7_term 22 = .ok (.ldiv, 1) := by decide +kernel
theorem dX7_term_23 : decode cX7_term 23 = .ok (.lreturn, 1) := by decide +kernel
theorem dX7_say_0 : decode cX7_say 0 = .ok (.iload_n 1, 1) := by decide +kernel
theorem dX7_say_1 : decode cX7_say 1 = .ok (.bipush 33, 2) := by decide +kernel
theorem dX7_say_3 : decode cX7_say 3 = .ok (.bipush 126, 2) := by decide +kernel
theorem dX7_say_5 : decode cX7_say 5 = .ok (.invokestatic 58, 3) := by decide +kernel
theorem dX7_say_8 : decode cX7_say 8 = .ok (.ifCond .ne 6, 3) := by decide +kernel
theorem dX7_say_11 : decode cX7_say 11 = .ok (.bipush (-2), 2) := by decide +kernel
theorem dX7_say_13 : decode cX7_say 13 = .ok (.ireturn, 1) := by decide +kernel
theorem dX7_say_14 : decode cX7_say 14 = .ok (.aload_n 0, 1) := by decide +kernel
theorem dX7_say_15 : decode cX7_say 15 = .ok (.getfield 66, 3) := by decide +kernel
theorem dX7_say_18 : decode cX7_say 18 = .ok (.bipush 16, 2) := by decide +kernel
theorem dX7_say_20 : decode cX7_say 20 = .ok (.if_icmp .ne 6, 3) := by decide +kernel
theorem dX7_say_23 : decode cX7_say 23 = .ok (.bipush (-4), 2) := by decide +kernel
theorem dX7_say_25 : decode cX7_say 25 = .ok (.ireturn, 1) := by decide +kernel
theorem dX7_say_26 : decode cX7_say 26 = .ok (.aload_n 0, 1) := by decide +kernel
theorem dX7_say_27 : decode cX7_say 27 = .ok (.getfield 7, 3) := by decide +kernel
theorem dX7_say_30 : decode cX7_say 30 = .ok (.aload_n 0, 1) := by decide +kernel
theorem dX7_say_31 : decode cX7_say 31 = .ok (.getfield 66, 3) := by decide +kernel
theorem dX7_say_34 : decode cX7_say 34 = .ok (.iload_n 1, 1) := by decide +kernel
theorem dX7_say_35 : decode cX7_say 35 = .ok (.iastore, 1) := by decide +kernel
theorem dX7_say_36 : decode cX7_say 36 = .ok (.aload_n 0, 1) := by decide +kernel
theorem dX7_say_37 : decode cX7_say 37 = .ok (.dup, 1) := by decide +kernel
theorem dX7_say_38 : decode cX7_say 38 = .ok (.getfield 66, 3) := by decide +kernel
theorem dX7_say_41 : decode cX7_say 41 = .ok (.iconst 1, 1) := by decide +kernel
theorem dX7_say_42 : decode cX7_say 42 = .ok (.iadd, 1) := by decide +kernel
theorem dX7_say_43 : decode cX7_say 43 = .ok (.putfield 66, 3) := by decide +kernel
theorem dX7_say_46 : decode cX7_say 46 = .ok (.aload_n 0, 1) := by decide +kernel
theorem dX7_say_47 : decode cX7_say 47 = .ok (.getfield 66, 3) := by decide +kernel
theorem dX7_say_50 : decode cX7_say 50 = .ok (.ireturn, 1) := by decide +kernel
theorem dX7_wipe_0 : decode cX7_wipe 0 = .ok (.aload_n 0, 1) := by decide +kernel
theorem dX7_wipe_1 : decode cX7_wipe 1 = .ok (.getfield 66, 3) := by decide +kernel
theorem dX7_wipe_4 : decode cX7_wipe 4 = .ok (.istore_n 1, 1) := by decide +kernel
theorem dX7_wipe_5 : decode cX7_wipe 5 = .ok (.aload_n 0, 1) := by decide +kernel
theorem dX7_wipe_6 : decode cX7_wipe 6 = .ok (.iconst 0, 1) := by decide +kernel
theorem dX7_wipe_7 : decode cX7_wipe 7 = .ok (.putfield 66, 3) := by decide +kernel
theorem dX7_wipe_10 : decode cX7_wipe 10 = .ok (.iload_n 1, 1) := by decide +kernel
theorem dX7_wipe_11 : decode cX7_wipe 11 = .ok (.ireturn, 1) := by decide +kernel
theorem dX7_isPerson_0 : decode cX7_isPerson 0 = .ok (.iload_n 0, 1) := by decide +kernel
theorem dX7_isPerson_1 : decode cX7_isPerson 1 = .ok (.bipush 65, 2) := by decide +kernel
theorem dX7_isPerson_3 : decode cX7_isPerson 3 = .ok (.bipush 90, 2) := by decide +kernel
theorem dX7_isPerson_5 : decode cX7_isPerson 5 = .ok (.invokestatic 58, 3) := by decide +kernel
theorem dX7_isPerson_8 : decode cX7_isPerson 8 = .ok (.ireturn, 1) := by decide +kernel
theorem dX7_isBad_0 : decode cX7_isBad 0 = .ok (.iload_n 0, 1) := by decide +kernel
theorem dX7_isBad_1 : decode cX7_isBad 1 = .ok (.bipush 115, 2) := by decide +kernel
theorem dX7_isBad_3 : decode cX7_isBad 3 = .ok (.if_icmp .eq 15, 3) := by decide +kernel
theorem dX7_isBad_6 : decode cX7_isBad 6 = .ok (.iload_n 0, 1) := by decide +kernel
theorem dX7_isBad_7 : decode cX7_isBad 7 = .ok (.bipush 109, 2) := by decide +kernel
theorem dX7_isBad_9 : decode cX7_isBad 9 = .ok (.if_icmp .eq 9, 3) := by decide +kernel
theorem dX7_isBad_12 : decode cX7_isBad 12 = .ok (.iload_n 0, 1) := by decide +kernel
theorem dX7_isBad_13 : decode cX7_isBad 13 = .ok (.bipush 117, 2) := by decide +kernel
theorem dX7_isBad_15 : decode cX7_isBad 15 = .ok (.if_icmp .ne 7, 3) := by decide +kernel
theorem dX7_isBad_18 : decode cX7_isBad 18 = .ok (.iconst 1, 1) := by decide +kernel
theorem dX7_isBad_19 : decode cX7_isBad 19 = .ok (.goto 4, 3) := by decide +kernel
theorem dX7_isBad_22 : decode cX7_isBad 22 = .ok (.iconst 0, 1) := by decide +kernel
theorem dX7_isBad_23 : decode cX7_isBad 23 = .ok (.ireturn, 1) := by decide +kernel
theorem dX7_namesFault_0 : decode cX7_namesFault 0 = .ok (.iconst 0, 1) := by decide +kernel
theorem dX7_namesFault_1 : decode cX7_namesFault 1 = .ok (.istore_n 1, 1) := by decide +kernel
theorem dX7_namesFault_2 : decode cX7_namesFault 2 = .ok (.iload_n 1, 1) := by decide +kernel
theorem dX7_namesFault_3 : decode cX7_namesFault 3 = .ok (.aload_n 0, 1) := by decide +kernel
theorem dX7_namesFault_4 : decode cX7_namesFault 4 = .ok (.getfield 66, 3) := by decide +kernel
theorem dX7_namesFault_7 : decode cX7_namesFault 7 = .ok (.if_icmp .ge 44, 3) := by decide +kernel
theorem dX7_namesFault_10 : decode cX7_namesFault 10 = .ok (.aload_n 0, 1) := by decide +kernel
theorem dX7_namesFault_11 : decode cX7_namesFault 11 = .ok (.getfield 7, 3) := by decide +kernel
theorem dX7_namesFault_14 : decode cX7_namesFault 14 = .ok (.iload_n 1, 1) := by decide +kernel
theorem dX7_namesFault_15 : decode cX7_namesFault 15 = .ok (.iaload, 1) := by decide +kernel
theorem dX7_namesFault_16 : decode cX7_namesFault 16 = .ok (.istore_n 2, 1) := by decide +kernel
theorem dX7_namesFault_17 : decode cX7_namesFault 17 = .ok (.iload_n 1, 1) := by decide +kernel
theorem dX7_namesFault_18 : decode cX7_namesFault 18 = .ok (.bipush 10, 2) := by decide +kernel
theorem dX7_namesFault_20 : decode cX7_namesFault 20 = .ok (.if_icmp .eq 23, 3) := by decide +kernel
theorem dX7_namesFault_23 : decode cX7_namesFault 23 = .ok (.iload_n 2, 1) := by decide +kernel
theorem dX7_namesFault_24 : decode cX7_namesFault 24 = .ok (.bipush 46, 2) := by decide +kernel
theorem dX7_namesFault_26 : decode cX7_namesFault 26 = .ok (.if_icmp .eq 19, 3) := by decide +kernel
theorem dX7_namesFault_29 : decode cX7_namesFault 29 = .ok (.iload_n 2, 1) := by decide +kernel
theorem dX7_namesFault_30 : decode cX7_namesFault 30 = .ok (.invokestatic 69, 3) := by decide +kernel
theorem dX7_namesFault_33 : decode cX7_namesFault 33 = .ok (.ifCond .ne 12, 3) := by decide +kernel
theorem dX7_namesFault_36 : decode cX7_namesFault 36 = .ok (.iload_n 2, 1) := by decide +kernel
theorem dX7_namesFault_37 : decode cX7_namesFault 37 = .ok (.invokestatic 73, 3) := by decide +kernel
theorem dX7_namesFault_40 : decode cX7_namesFault 40 = .ok (.ifCond .ne 5, 3) := by decide +kernel
theorem dX7_namesFault_43 : decode cX7_namesFault 43 = .ok (.iload_n 1, 1) := by decide +kernel
theorem dX7_namesFault_44 : decode cX7_namesFault 44 = .ok (.ireturn, 1) := by decide +kernel
theorem dX7_namesFault_45 : decode cX7_namesFault 45 = .ok (.iinc 1 1, 3) := by decide +kernel
theorem dX7_namesFault_48 : decode cX7_namesFault 48 = .ok (.goto (-46), 3) := by decide +kernel
theorem dX7_namesFault_51 : decode cX7_namesFault 51 = .ok (.bipush (-6), 2) := by decide +kernel
theorem dX7_namesFault_53 : decode cX7_namesFault 53 = .ok (.ireturn, 1) := by decide +kernel
theorem dX7_isAct_0 : decode cX7_isAct 0 = .ok (.iload_n 0, 1) := by decide +kernel
theorem dX7_isAct_1 : decode cX7_isAct 1 = .ok (.bipush 43, 2) := by decide +kernel
theorem dX7_isAct_3 : decode cX7_isAct 3 = .ok (.if_icmp .eq 21, 3) := by decide +kernel
theorem dX7_isAct_6 : decode cX7_isAct 6 = .ok (.iload_n 0, 1) := by decide +kernel
theorem dX7_isAct_7 : decode cX7_isAct 7 = .ok (.bipush 45, 2) := by decide +kernel
theorem dX7_isAct_9 : decode cX7_isAct 9 = .ok (.if_icmp .eq 15, 3) := by decide +kernel
theorem dX7_isAct_12 : decode cX7_isAct 12 = .ok (.iload_n 0, 1) := by decide +kernel
theorem dX7_isAct_13 : decode cX7_isAct 13 = .ok (.bipush 42, 2) := by decide +kernel
theorem dX7_isAct_15 : decode cX7_isAct 15 = .ok (.if_icmp .eq 9, 3) := by decide +kernel
theorem dX7_isAct_18 : decode cX7_isAct 18 = .ok (.iload_n 0, 1) := by decide +kernel
theorem dX7_isAct_19 : decode cX7_isAct 19 = .ok (.bipush 47, 2) := by decide +kernel
theorem dX7_isAct_21 : decode cX7_isAct 21 = .ok (.if_icmp .ne 7, 3) := by decide +kernel
theorem dX7_isAct_24 : decode cX7_isAct 24 = .ok (.iconst 1, 1) := by decide +kernel
theorem dX7_isAct_25 : decode cX7_isAct 25 = .ok (.goto 4, 3) := by decide +kernel
theorem dX7_isAct_28 : decode cX7_isAct 28 = .ok (.iconst 0, 1) := by decide +kernel
theorem dX7_isAct_29 : decode cX7_isAct 29 = .ok (.ireturn, 1) := by decide +kernel
theorem dX7_ruleFault_0 : decode cX7_ruleFault 0 = .ok (.iconst 1, 1) := by decide +kernel
theorem dX7_ruleFault_1 : decode cX7_ruleFault 1 = .ok (.istore_n 1, 1) := by decide +kernel
theorem dX7_ruleFault_2 : decode cX7_ruleFault 2 = .ok (.iconst 0, 1) := by decide +kernel
theorem dX7_ruleFault_3 : decode cX7_ruleFault 3 = .ok (.istore_n 2, 1) := by decide +kernel
theorem dX7_ruleFault_4 : decode cX7_ruleFault 4 = .ok (.iload_n 2, 1) := by decide +kernel
theorem dX7_ruleFault_5 : decode cX7_ruleFault 5 = .ok (.aload_n 0, 1) := by decide +kernel
theorem dX7_ruleFault_6 : decode cX7_ruleFault 6 = .ok (.getfield 66, 3) := by decide +kernel
theorem dX7_ruleFault_9 : decode cX7_ruleFault 9 = .ok (.if_icmp .ge 95, 3) := by decide +kernel
theorem dX7_ruleFault_12 : decode cX7_ruleFault 12 = .ok (.aload_n 0, 1) := by decide +kernel
theorem dX7_ruleFault_13 : decode cX7_ruleFault 13 = .ok (.getfield 7, 3) := by decide +kernel
theorem dX7_ruleFault_16 : decode cX7_ruleFault 16 = .ok (.iload_n 2, 1) := by decide +kernel
theorem dX7_ruleFault_17 : decode cX7_ruleFault 17 = .ok (.iaload, 1) := by decide +kernel
theorem dX7_ruleFault_18 : decode cX7_ruleFault 18 = .ok (.istore_n 3, 1) := by decide +kernel
theorem dX7_ruleFault_19 : decode cX7_ruleFault 19 = .ok (.iload_n 3, 1) := by decide +kernel
theorem dX7_ruleFault_20 : decode cX7_ruleFault 20 = .ok (.bipush 78, 2) := by decide +kernel
theorem dX7_ruleFault_22 : decode cX7_ruleFault 22 = .ok (.if_icmp .eq 32, 3) := by decide +kernel
theorem dX7_ruleFault_25 : decode cX7_ruleFault 25 = .ok (.iload_n 3, 1) := by decide +kernel
theorem dX7_ruleFault_26 : decode cX7_ruleFault 26 = .ok (.bipush 107, 2) := by decide +kernel
theorem dX7_ruleFault_28 : decode cX7_ruleFault 28 = .ok (.if_icmp .eq 26, 3) := by decide +kernel
theorem dX7_ruleFault_31 : decode cX7_ruleFault 31 = .ok (.iload_n 3, 1) := by decide +kernel
theorem dX7_ruleFault_32 : decode cX7_ruleFault 32 = .ok (.bipush 118, 2) := by decide +kernel
theorem dX7_ruleFault_34 : decode cX7_ruleFault 34 = .ok (.if_icmp .eq 20, 3) := by decide +kernel
theorem dX7_ruleFault_37 : decode cX7_ruleFault 37 = .ok (.iload_n 3, 1) := by decide +kernel
theorem dX7_ruleFault_38 : decode cX7_ruleFault 38 = .ok (.bipush 100, 2) := by decide +kernel
theorem dX7_ruleFault_40 : decode cX7_ruleFault 40 = .ok (.if_icmp .eq 14, 3) := by decide +kernel
theorem dX7_ruleFault_43 : decode cX7_ruleFault 43 = .ok (.iload_n 3, 1) := by decide +kernel
theorem dX7_ruleFault_44 : decode cX7_ruleFault 44 = .ok (.bipush 48, 2) := by decide +kernel
theorem dX7_ruleFault_46 : decode cX7_ruleFault 46 = .ok (.bipush 57, 2) := by decide +kernel
theorem dX7_ruleFault_48 : decode cX7_ruleFault 48 = .ok (.invokestatic 58, 3) := by decide +kernel
theorem dX7_ruleFault_51 : decode cX7_ruleFault 51 = .ok (.ifCond .eq 7, 3) := by decide +kernel
theorem dX7_ruleFault_54 : decode cX7_ruleFault 54 = .ok (.iconst 1, 1) := by decide +kernel
theorem dX7_ruleFault_55 : decode cX7_ruleFault 55 = .ok (.goto 4, 3) := by decide +kernel
theorem dX7_ruleFault_58 : decode cX7_ruleFault 58 = .ok (.iconst 0, 1) := by decide +kernel
theorem dX7_ruleFault_59 : decode cX7_ruleFault 59 = .ok (.istore 4, 2) := by decide +kernel
theorem dX7_ruleFault_61 : decode cX7_ruleFault 61 = .ok (.iload_n 1, 1) := by decide +kernel
theorem dX7_ruleFault_62 : decode cX7_ruleFault 62 = .ok (.ifCond .eq 21, 3) := by decide +kernel
theorem dX7_ruleFault_65 : decode cX7_ruleFault 65 = .ok (.iload_n 2, 1) := by decide +kernel
theorem dX7_ruleFault_66 : decode cX7_ruleFault 66 = .ok (.bipush 11, 2) := by decide +kernel
theorem dX7_ruleFault_68 : decode cX7_ruleFault 68 = .ok (.if_icmp .eq 15, 3) := by decide +kernel
theorem dX7_ruleFault_71 : decode cX7_ruleFault 71 = .ok (.iload 4, 2) := by decide +kernel
theorem dX7_ruleFault_73 : decode cX7_ruleFault 73 = .ok (.ifCond .ne 12, 3) := by decide +kernel
theorem dX7_ruleFault_76 : decode cX7_ruleFault 76 = .ok (.iload_n 3, 1) := by decide +kernel
theorem dX7_ruleFault_77 : decode cX7_ruleFault 77 = .ok (.invokestatic 76, 3) := by decide +kernel
theorem dX7_ruleFault_80 : decode cX7_ruleFault 80 = .ok (.ifCond .ne 5, 3) := by decide +kernel
theorem dX7_ruleFault_83 : decode cX7_ruleFault 83 = .ok (.iload_n 2, 1) := by decide +kernel
theorem dX7_ruleFault_84 : decode cX7_ruleFault 84 = .ok (.ireturn, 1) := by decide +kernel
theorem dX7_ruleFault_85 : decode cX7_ruleFault 85 = .ok (.iload_n 1, 1) := by decide +kernel
theorem dX7_ruleFault_86 : decode cX7_ruleFault 86 = .ok (.iload 4, 2) := by decide +kernel
theorem dX7_ruleFault_88 : decode cX7_ruleFault 88 = .ok (.ifCond .eq 7, 3) := by decide +kernel
theorem dX7_ruleFault_91 : decode cX7_ruleFault 91 = .ok (.iconst (-1), 1) := by decide +kernel
theorem dX7_ruleFault_92 : decode cX7_ruleFault 92 = .ok (.goto 4, 3) := by decide +kernel
theorem dX7_ruleFault_95 : decode cX7_ruleFault 95 = .ok (.iconst 1, 1) := by decide +kernel
theorem dX7_ruleFault_96 : decode cX7_ruleFault 96 = .ok (.iadd, 1) := by decide +kernel
theorem dX7_ruleFault_97 : decode cX7_ruleFault 97 = .ok (.istore_n 1, 1) := by decide +kernel
theorem dX7_ruleFault_98 : decode cX7_ruleFault 98 = .ok (.iinc 2 1, 3) := by decide +kernel
theorem dX7_ruleFault_101 : decode cX7_ruleFault 101 = .ok (.goto (-97), 3) := by decide +kernel
theorem dX7_ruleFault_104 : decode cX7_ruleFault 104 = .ok (.iload_n 1, 1) := by decide +kernel
theorem dX7_ruleFault_105 : decode cX7_ruleFault 105 = .ok (.ifCond .ne 8, 3) := by decide +kernel
theorem dX7_ruleFault_108 : decode cX7_ruleFault 108 = .ok (.bipush (-6), 2) := by decide +kernel
theorem dX7_ruleFault_110 : decode cX7_ruleFault 110 = .ok (.goto 7, 3) := by decide +kernel
theorem dX7_ruleFault_113 : decode cX7_ruleFault 113 = .ok (.aload_n 0, 1) := by decide +kernel
theorem dX7_ruleFault_114 : decode cX7_ruleFault 114 = .ok (.getfield 66, 3) := by decide +kernel
theorem dX7_ruleFault_117 : decode cX7_ruleFault 117 = .ok (.ireturn, 1) := by decide +kernel
theorem dX7_fault_0 : decode cX7_fault 0 = .ok (.iload_n 1, 1) := by decide +kernel
theorem dX7_fault_1 : decode cX7_fault 1 = .ok (.ifCond .ne 10, 3) := by decide +kernel
theorem dX7_fault_4 : decode cX7_fault 4 = .ok (.aload_n 0, 1) := by decide +kernel
theorem dX7_fault_5 : decode cX7_fault 5 = .ok (.invokevirtual 79, 3) := by decide +kernel
theorem dX7_fault_8 : decode cX7_fault 8 = .ok (.goto 17, 3) := by decide +kernel
theorem dX7_fault_11 : decode cX7_fault 11 = .ok (.iload_n 1, 1) := by decide +kernel
theorem dX7_fault_12 : decode cX7_fault 12 = .ok (.iconst 1, 1) := by decide +kernel
theorem dX7_fault_13 : decode cX7_fault 13 = .ok (.if_icmp .ne 10, 3) := by decide +kernel
theorem dX7_fault_16 : decode cX7_fault 16 = .ok (.aload_n 0, 1) := by decide +kernel
theorem dX7_fault_17 : decode cX7_fault 17 = .ok (.invokevirtual 83, 3) := by decide +kernel
theorem dX7_fault_20 : decode cX7_fault 20 = .ok (.goto 5, 3) := by decide +kernel
theorem dX7_fault_23 : decode cX7_fault 23 = .ok (.bipush (-2), 2) := by decide +kernel
theorem dX7_fault_25 : decode cX7_fault 25 = .ok (.ireturn, 1) := by decide +kernel
theorem dX7_names_0 : decode cX7_names 0 = .ok (.iload_n 1, 1) := by decide +kernel
theorem dX7_names_1 : decode cX7_names 1 = .ok (.invokestatic 86, 3) := by decide +kernel
theorem dX7_names_4 : decode cX7_names 4 = .ok (.ifCond .ne 5, 3) := by decide +kernel
theorem dX7_names_7 : decode cX7_names 7 = .ok (.iconst (-1), 1) := by decide +kernel
theorem dX7_names_8 : decode cX7_names 8 = .ok (.ireturn, 1) := by decide +kernel
theorem dX7_names_9 : decode cX7_names 9 = .ok (.aload_n 0, 1) := by decide +kernel
theorem dX7_names_10 : decode cX7_names 10 = .ok (.invokevirtual 79, 3) := by decide +kernel
theorem dX7_names_13 : decode cX7_names 13 = .ok (.ifCond .lt 6, 3) := by decide +kernel
theorem dX7_names_16 : decode cX7_names 16 = .ok (.bipush (-5), 2) := by decide +kernel
theorem dX7_names_18 : decode cX7_names 18 = .ok (.ireturn, 1) := by decide +kernel
theorem dX7_names_19 : decode cX7_names 19 = .ok (.aload_n 0, 1) := by decide +kernel
theorem dX7_names_20 : decode cX7_names 20 = .ok (.getfield 19, 3) := by decide +kernel
theorem dX7_names_23 : decode cX7_names 23 = .ok (.iload_n 1, 1) := by decide +kernel
theorem dX7_names_24 : decode cX7_names 24 = .ok (.aload_n 0, 1) := by decide +kernel
theorem dX7_names_25 : decode cX7_names 25 = .ok (.getfield 66, 3) := by decide +kernel
theorem dX7_names_28 : decode cX7_names 28 = .ok (.iastore, 1) := by decide +kernel
theorem dX7_names_29 : decode cX7_names 29 = .ok (.iconst 0, 1) := by decide +kernel
theorem dX7_names_30 : decode cX7_names 30 = .ok (.istore_n 2, 1) := by decide +kernel
theorem dX7_names_31 : decode cX7_names 31 = .ok (.iload_n 2, 1) := by decide +kernel
theorem dX7_names_32 : decode cX7_names 32 = .ok (.aload_n 0, 1) := by decide +kernel
theorem dX7_names_33 : decode cX7_names 33 = .ok (.getfield 66, 3) := by decide +kernel
theorem dX7_names_36 : decode cX7_names 36 = .ok (.if_icmp .ge 26, 3) := by decide +kernel
theorem dX7_names_39 : decode cX7_names 39 = .ok (.aload_n 0, 1) := by decide +kernel
theorem dX7_names_40 : decode cX7_names 40 = .ok (.getfield 22, 3) := by decide +kernel
theorem dX7_names_43 : decode cX7_names 43 = .ok (.bipush 10, 2) := by decide +kernel
theorem dX7_names_45 : decode cX7_names 45 = .ok (.iload_n 1, 1) := by decide +kernel
theorem dX7_names_46 : decode cX7_names 46 = .ok (.imul, 1) := by decide +kernel
theorem dX7_names_47 : decode cX7_names 47 = .ok (.iload_n 2, 1) := by decide +kernel
theorem dX7_names_48 : decode cX7_names 48 = .ok (.iadd, 1) := by decide +kernel
theorem dX7_names_49 : decode cX7_names 49 = .ok (.aload_n 0, 1) := by decide +kernel
theorem dX7_names_50 : decode cX7_names 50 = .ok (.getfield 7, 3) := by decide +kernel
theorem dX7_names_53 : decode cX7_names 53 = .ok (.iload_n 2, 1) := by decide +kernel
theorem dX7_names_54 : decode cX7_names 54 = .ok (.iaload, 1) := by decide +kernel
theorem dX7_names_55 : decode cX7_names 55 = .ok (.iastore, 1) := by decide +kernel
theorem dX7_names_56 : decode cX7_names 56 = .ok (.iinc 2 1, 3) := by decide +kernel
theorem dX7_names_59 : decode cX7_names 59 = .ok (.goto (-28), 3) := by decide +kernel
theorem dX7_names_62 : decode cX7_names 62 = .ok (.aload_n 0, 1) := by decide +kernel
theorem dX7_names_63 : decode cX7_names 63 = .ok (.iconst 0, 1) := by decide +kernel
theorem dX7_names_64 : decode cX7_names 64 = .ok (.putfield 66, 3) := by decide +kernel
theorem dX7_names_67 : decode cX7_names 67 = .ok (.aload_n 0, 1) := by decide +kernel
theorem dX7_names_68 : decode cX7_names 68 = .ok (.getfield 19, 3) := by decide +kernel
theorem dX7_names_71 : decode cX7_names 71 = .ok (.iload_n 1, 1) := by decide +kernel
theorem dX7_names_72 : decode cX7_names 72 = .ok (.iaload, 1) := by decide +kernel
theorem dX7_names_73 : decode cX7_names 73 = .ok (.ireturn, 1) := by decide +kernel
theorem dX7_set_0 : decode cX7_set 0 = .ok (.iload_n 1, 1) := by decide +kernel
theorem dX7_set_1 : decode cX7_set 1 = .ok (.invokestatic 86, 3) := by decide +kernel
theorem dX7_set_4 : decode cX7_set 4 = .ok (.ifCond .ne 5, 3) := by decide +kernel
theorem dX7_set_7 : decode cX7_set 7 = .ok (.iconst (-1), 1) := by decide +kernel
theorem dX7_set_8 : decode cX7_set 8 = .ok (.ireturn, 1) := by decide +kernel
theorem dX7_set_9 : decode cX7_set 9 = .ok (.iload_n 2, 1) := by decide +kernel
theorem dX7_set_10 : decode cX7_set 10 = .ok (.iconst 0, 1) := by decide +kernel
theorem dX7_set_11 : decode cX7_set 11 = .ok (.iconst 1, 1) := by decide +kernel
theorem dX7_set_12 : decode cX7_set 12 = .ok (.invokestatic 58, 3) := by decide +kernel
theorem dX7_set_15 : decode cX7_set 15 = .ok (.ifCond .eq 20, 3) := by decide +kernel
theorem dX7_set_18 : decode cX7_set 18 = .ok (.iload_n 3, 1) := by decide +kernel
theorem dX7_set_19 : decode cX7_set 19 = .ok (.iconst 0, 1) := by decide +kernel
theorem dX7_set_20 : decode cX7_set 20 = .ok (.iload_n 2, 1) := by decide +kernel
theorem dX7_set_21 : decode cX7_set 21 = .ok (.ifCond .ne 7, 3) := by decide +kernel
theorem dX7_set_24 : decode cX7_set 24 = .ok (.iconst 4, 1) := by decide +kernel
theorem dX7_set_25 : decode cX7_set 25 = .ok (.goto 4, 3) := by decide +kernel
theorem dX7_set_28 : decode cX7_set 28 = .ok (.iconst 1, 1) := by decide +kernel
theorem dX7_set_29 : decode cX7_set 29 = .ok (.invokestatic 58, 3) := by decide +kernel
theorem dX7_set_32 : decode cX7_set 32 = .ok (.ifCond .ne 6, 3) := by decide +kernel
theorem dX7_set_35 : decode cX7_set 35 = .ok (.bipush (-2), 2) := by decide +kernel
theorem dX7_set_37 : decode cX7_set 37 = .ok (.ireturn, 1) := by decide +kernel
theorem dX7_set_38 : decode cX7_set 38 = .ok (.iload_n 2, 1) := by decide +kernel
theorem dX7_set_39 : decode cX7_set 39 = .ok (.ifCond .ne 12, 3) := by decide +kernel
theorem dX7_set_42 : decode cX7_set 42 = .ok (.aload_n 0, 1) := by decide +kernel
theorem dX7_set_43 : decode cX7_set 43 = .ok (.getfield 13, 3) := by decide +kernel
theorem dX7_set_46 : decode cX7_set 46 = .ok (.iload_n 1, 1) := by decide +kernel
theorem dX7_set_47 : decode cX7_set 47 = .ok (.iaload, 1) := by decide +kernel
theorem dX7_set_48 : decode cX7_set 48 = .ok (.goto 9, 3) := by decide +kernel
theorem dX7_set_51 : decode cX7_set 51 = .ok (.aload_n 0, 1) := by decide +kernel
theorem dX7_set_52 : decode cX7_set 52 = .ok (.getfield 16, 3) := by decide +kernel
theorem dX7_set_55 : decode cX7_set 55 = .ok (.iload_n 1, 1) := by decide +kernel
theorem dX7_set_56 : decode cX7_set 56 = .ok (.iaload, 1) := by decide +kernel
theorem dX7_set_57 : decode cX7_set 57 = .ok (.istore 4, 2) := by decide +kernel
theorem dX7_set_59 : decode cX7_set 59 = .ok (.iload_n 2, 1) := by decide +kernel
theorem dX7_set_60 : decode cX7_set 60 = .ok (.ifCond .ne 13, 3) := by decide +kernel
theorem dX7_set_63 : decode cX7_set 63 = .ok (.aload_n 0, 1) := by decide +kernel
theorem dX7_set_64 : decode cX7_set 64 = .ok (.getfield 13, 3) := by decide +kernel
theorem dX7_set_67 : decode cX7_set 67 = .ok (.iload_n 1, 1) := by decide +kernel
theorem dX7_set_68 : decode cX7_set 68 = .ok (.iload_n 3, 1) := by decide +kernel
theorem dX7_set_69 : decode cX7_set 69 = .ok (.iastore, 1) := by decide +kernel
theorem dX7_set_70 : decode cX7_set 70 = .ok (.goto 10, 3) := by decide +kernel
theorem dX7_set_73 : decode cX7_set 73 = .ok (.aload_n 0, 1) := by decide +kernel
theorem dX7_set_74 : decode cX7_set 74 = .ok (.getfield 16, 3) := by decide +kernel
theorem dX7_set_77 : decode cX7_set 77 = .ok (.iload_n 1, 1) := by decide +kernel
theorem dX7_set_78 : decode cX7_set 78 = .ok (.iload_n 3, 1) := by decide +kernel
theorem dX7_set_79 : decode cX7_set 79 = .ok (.iastore, 1) := by decide +kernel
theorem dX7_set_80 : decode cX7_set 80 = .ok (.iload 4, 2) := by decide +kernel
theorem dX7_set_82 : decode cX7_set 82 = .ok (.ireturn, 1) := by decide +kernel
theorem dX7_sheet_0 : decode cX7_sheet 0 = .ok (.iload_n 1, 1) := by decide +kernel
theorem dX7_sheet_1 : decode cX7_sheet 1 = .ok (.invokestatic 86, 3) := by decide +kernel
theorem dX7_sheet_4 : decode cX7_sheet 4 = .ok (.ifCond .ne 5, 3) := by decide +kernel
theorem dX7_sheet_7 : decode cX7_sheet 7 = .ok (.iconst (-1), 1) := by decide +kernel
theorem dX7_sheet_8 : decode cX7_sheet 8 = .ok (.ireturn, 1) := by decide +kernel
theorem dX7_sheet_9 : decode cX7_sheet 9 = .ok (.iload_n 2, 1) := by decide +kernel
theorem dX7_sheet_10 : decode cX7_sheet 10 = .ok (.iconst (-1), 1) := by decide +kernel
theorem dX7_sheet_11 : decode cX7_sheet 11 = .ok (.if_icmp .ne 12, 3) := by decide +kernel
theorem dX7_sheet_14 : decode cX7_sheet 14 = .ok (.aload_n 0, 1) := by decide +kernel
theorem dX7_sheet_15 : decode cX7_sheet 15 = .ok (.getfield 19, 3) := by decide +kernel
theorem dX7_sheet_18 : decode cX7_sheet 18 = .ok (.iload_n 1, 1) := by decide +kernel
theorem dX7_sheet_19 : decode cX7_sheet 19 = .ok (.iaload, 1) := by decide +kernel
theorem dX7_sheet_20 : decode cX7_sheet 20 = .ok (.goto 35, 3) := by decide +kernel
theorem dX7_sheet_23 : decode cX7_sheet 23 = .ok (.iload_n 2, 1) := by decide +kernel
theorem dX7_sheet_24 : decode cX7_sheet 24 = .ok (.iconst 0, 1) := by decide +kernel
theorem dX7_sheet_25 : decode cX7_sheet 25 = .ok (.aload_n 0, 1) := by decide +kernel
theorem dX7_sheet_26 : decode cX7_sheet 26 = .ok (.getfield 19, 3) := by decide +kernel
theorem dX7_sheet_29 : decode cX7_sheet 29 = .ok (.iload_n 1, 1) := by decide +kernel
theorem dX7_sheet_30 : decode cX7_sheet 30 = .ok (.iaload, 1) := by decide +kernel
theorem dX7_sheet_31 : decode cX7_sheet 31 = .ok (.iconst 1, 1) := by decide +kernel
theorem dX7_sheet_32 : decode cX7_sheet 32 = .ok (.isub, 1) := by decide +kernel
theorem dX7_sheet_33 : decode cX7_sheet 33 = .ok (.invokestatic 58, 3) := by decide +kernel
theorem dX7_sheet_36 : decode cX7_sheet 36 = .ok (.ifCond .eq 17, 3) := by decide +kernel
theorem dX7_sheet_39 : decode cX7_sheet 39 = .ok (.aload_n 0, 1) := by decide +kernel
theorem dX7_sheet_40 : decode cX7_sheet 40 = .ok (.getfield 22, 3) := by decide +kernel
theorem dX7_sheet_43 : decode cX7_sheet 43 = .ok (.bipush 10, 2) := by decide +kernel
theorem dX7_sheet_45 : decode cX7_sheet 45 = .ok (.iload_n 1, 1) := by decide +kernel
theorem dX7_sheet_46 : decode cX7_sheet 46 = .ok (.imul, 1) := by decide +kernel
theorem dX7_sheet_47 : decode cX7_sheet 47 = .ok (.iload_n 2, 1) := by decide +kernel
theorem dX7_sheet_48 : decode cX7_sheet 48 = .ok (.iadd, 1) := by decide +kernel
theorem dX7_sheet_49 : decode cX7_sheet 49 = .ok (.iaload, 1) := by decide +kernel
theorem dX7_sheet_50 : decode cX7_sheet 50 = .ok (.goto 5, 3) := by decide +kernel
theorem dX7_sheet_53 : decode cX7_sheet 53 = .ok (.bipush (-6), 2) := by decide +kernel
theorem dX7_sheet_55 : decode cX7_sheet 55 = .ok (.ireturn, 1) := by decide +kernel
theorem dX7_layList_0 : decode cX7_layList 0 = .ok (.aload_n 0, 1) := by decide +kernel
theorem dX7_layList_1 : decode cX7_layList 1 = .ok (.iconst 0, 1) := by decide +kernel
theorem dX7_layList_2 : decode cX7_layList 2 = .ok (.putfield 89, 3) := by decide +kernel
theorem dX7_layList_5 : decode cX7_layList 5 = .ok (.aload_n 0, 1) := by decide +kernel
theorem dX7_layList_6 : decode cX7_layList 6 = .ok (.iconst 0, 1) := by decide +kernel
theorem dX7_layList_7 : decode cX7_layList 7 = .ok (.putfield 92, 3) := by decide +kernel
theorem dX7_layList_10 : decode cX7_layList 10 = .ok (.aload_n 0, 1) := by decide +kernel
theorem dX7_layList_11 : decode cX7_layList 11 = .ok (.iconst 0, 1) := by decide +kernel
theorem dX7_layList_12 : decode cX7_layList 12 = .ok (.putfield 95, 3) := by decide +kernel
theorem dX7_layList_15 : decode cX7_layList 15 = .ok (.aload_n 0, 1) := by decide +kernel
theorem dX7_layList_16 : decode cX7_layList 16 = .ok (.iconst 0, 1) := by decide +kernel
theorem dX7_layList_17 : decode cX7_layList 17 = .ok (.putfield 98, 3) := by decide +kernel
theorem dX7_layList_20 : decode cX7_layList 20 = .ok (.aload_n 0, 1) := by decide +kernel
theorem dX7_layList_21 : decode cX7_layList 21 = .ok (.iconst 0, 1) := by decide +kernel
theorem dX7_layList_22 : decode cX7_layList 22 = .ok (.putfield 101, 3) := by decide +kernel
theorem dX7_layList_25 : decode cX7_layList 25 = .ok (.aload_n 0, 1) := by decide +kernel
theorem dX7_layList_26 : decode cX7_layList 26 = .ok (.iconst 0, 1) := by decide +kernel
theorem dX7_layList_27 : decode cX7_layList 27 = .ok (.putfield 104, 3) := by decide +kernel
theorem dX7_layList_30 : decode cX7_layList 30 = .ok (.iconst 0, 1) := by decide +kernel
theorem dX7_layList_31 : decode cX7_layList 31 = .ok (.istore_n 2, 1) := by decide +kernel
theorem dX7_layList_32 : decode cX7_layList 32 = .ok (.iload_n 2, 1) := by decide +kernel
theorem dX7_layList_33 : decode cX7_layList 33 = .ok (.bipush 26, 2) := by decide +kernel
theorem dX7_layList_35 : decode cX7_layList 35 = .ok (.if_icmp .ge 16, 3) := by decide +kernel
theorem dX7_layList_38 : decode cX7_layList 38 = .ok (.aload_n 0, 1) := by decide +kernel
theorem dX7_layList_39 : decode cX7_layList 39 = .ok (.getfield 39, 3) := by decide +kernel
theorem dX7_layList_42 : decode cX7_layList 42 = .ok (.iload_n 2, 1) := by decide +kernel
theorem dX7_layList_43 : decode cX7_layList 43 = .ok (.iconst 0, 1) := by decide +kernel
theorem dX7_layList_44 : decode cX7_layList 44 = .ok (.iastore, 1) := by decide +kernel
theorem dX7_layList_45 : decode cX7_layList 45 = .ok (.iinc 2 1, 3) := by decide +kernel
theorem dX7_layList_48 : decode cX7_layList 48 = .ok (.goto (-16), 3) := by decide +kernel
theorem dX7_layList_51 : decode cX7_layList 51 = .ok (.iconst 0, 1) := by decide +kernel
theorem dX7_layList_52 : decode cX7_layList 52 = .ok (.istore_n 2, 1) := by decide +kernel
theorem dX7_layList_53 : decode cX7_layList 53 = .ok (.iload_n 2, 1) := by decide +kernel
theorem dX7_layList_54 : decode cX7_layList 54 = .ok (.bipush 6, 2) := by decide +kernel
theorem dX7_layList_56 : decode cX7_layList 56 = .ok (.if_icmp .ge 124, 3) := by decide +kernel
theorem dX7_layList_59 : decode cX7_layList 59 = .ok (.iconst 0, 1) := by decide +kernel
theorem dX7_layList_60 : decode cX7_layList 60 = .ok (.istore_n 3, 1) := by decide +kernel
theorem dX7_layList_61 : decode cX7_layList 61 = .ok (.iload_n 3, 1) := by decide +kernel
theorem dX7_layList_62 : decode cX7_layList 62 = .ok (.aload_n 0, 1) := by decide +kernel
theorem dX7_layList_63 : decode cX7_layList 63 = .ok (.getfield 19, 3) := by decide +kernel
theorem dX7_layList_66 : decode cX7_layList 66 = .ok (.iload_n 2, 1) := by decide +kernel
theorem dX7_layList_67 : decode cX7_layList 67 = .ok (.iaload, 1) := by decide +kernel
theorem dX7_layList_68 : decode cX7_layList 68 = .ok (.if_icmp .ge 106, 3) := by decide +kernel
theorem dX7_layList_71 : decode cX7_layList 71 = .ok (.iload_n 1, 1) := by decide +kernel
theorem dX7_layList_72 : decode cX7_layList 72 = .ok (.iload_n 2, 1) := by decide +kernel
theorem dX7_layList_73 : decode cX7_layList 73 = .ok (.ishr, 1) := by decide +kernel
theorem dX7_layList_74 : decode cX7_layList 74 = .ok (.iconst 1, 1) := by decide +kernel
theorem dX7_layList_75 : decode cX7_layList 75 = .ok (.iand, 1) := by decide +kernel
theorem dX7_layList_76 : decode cX7_layList 76 = .ok (.iconst 1, 1) := by decide +kernel
theorem dX7_layList_77 : decode cX7_layList 77 = .ok (.if_icmp .ne 97, 3) := by decide +kernel
theorem dX7_layList_80 : decode cX7_layList 80 = .ok (.aload_n 0, 1) := by decide +kernel
theorem dX7_layList_81 : decode cX7_layList 81 = .ok (.getfield 22, 3) := by decide +kernel
theorem dX7_layList_84 : decode cX7_layList 84 = .ok (.bipush 10, 2) := by decide +kernel
theorem dX7_layList_86 : decode cX7_layList 86 = .ok (.iload_n 2, 1) := by decide +kernel
theorem dX7_layList_87 : decode cX7_layList 87 = .ok (.imul, 1) := by decide +kernel
theorem dX7_layList_88 : decode cX7_layList 88 = .ok (.iload_n 3, 1) := by decide +kernel
theorem dX7_layList_89 : decode cX7_layList 89 = .ok (.iadd, 1) := by decide +kernel
theorem dX7_layList_90 : decode cX7_layList 90 = .ok (.iaload, 1) := by decide +kernel
theorem dX7_layList_91 : decode cX7_layList 91 = .ok (.istore 4, 2) := by decide +kernel
theorem dX7_layList_93 : decode cX7_layList 93 = .ok (.aload_n 0, 1) := by decide +kernel
theorem dX7_layList_94 : decode cX7_layList 94 = .ok (.dup, 1) := by decide +kernel
theorem dX7_layList_95 : decode cX7_layList 95 = .ok (.getfield 89, 3) := by decide +kernel
theorem dX7_layList_98 : decode cX7_layList 98 = .ok (.iconst 1, 1) := by decide +kernel
theorem dX7_layList_99 : decode cX7_layList 99 = .ok (.iadd, 1) := by decide +kernel
theorem dX7_layList_100 : decode cX7_layList 100 = .ok (.putfield 89, 3) := by decide +kernel
theorem dX7_layList_103 : decode cX7_layList 103 = .ok (.aload_n 0, 1) := by decide +kernel
theorem dX7_layList_104 : decode cX7_layList 104 = .ok (.dup, 1) := by decide +kernel
theorem dX7_layList_105 : decode cX7_layList 105 = .ok (.getfield 92, 3) := by decide +kernel
theorem dX7_layList_108 : decode cX7_layList 108 = .ok (.iload 4, 2) := by decide +kernel
theorem dX7_layList_110 : decode cX7_layList 110 = .ok (.invokestatic 69, 3) := by decide +kernel
theorem dX7_layList_113 : decode cX7_layList 113 = .ok (.ifCond .eq 7, 3) := by decide +kernel
theorem dX7_layList_116 : decode cX7_layList 116 = .ok (.iconst 1, 1) := by decide +kernel
theorem dX7_layList_117 : decode cX7_layList 117 = .ok (.goto 4, 3) := by decide +kernel
theorem dX7_layList_120 : decode cX7_layList 120 = .ok (.iconst 0, 1) := by decide +kernel
theorem dX7_layList_121 : decode cX7_layList 121 = .ok (.iadd, 1) := by decide +kernel
theorem dX7_layList_122 : decode cX7_layList 122 = .ok (.putfield 92, 3) := by decide +kernel
theorem dX7_layList_125 : decode cX7_layList 125 = .ok (.aload_n 0, 1) := by decide +kernel
theorem dX7_layList_126 : decode cX7_layList 126 = .ok (.dup, 1) := by decide +kernel
theorem dX7_layList_127 : decode cX7_layList 127 = .ok (.getfield 95, 3) := by decide +kernel
theorem dX7_layList_130 : decode cX7_layList 130 = .ok (.iload 4, 2) := by decide +kernel
theorem dX7_layList_132 : decode cX7_layList 132 = .ok (.bipush 46, 2) := by decide +kernel
theorem dX7_layList_134 : decode cX7_layList 134 = .ok (.if_icmp .ne 7, 3) := by decide +kernel
theorem dX7_layList_137 : decode cX7_layList 137 = .ok (.iconst 1, 1) := by decide +kernel
theorem dX7_layList_138 : decode cX7_layList 138 = .ok (.goto 4, 3) := by decide +kernel
theorem dX7_layList_141 : decode cX7_layList 141 = .ok (.iconst 0, 1) := by decide +kernel
theorem dX7_layList_142 : decode cX7_layList 142 = .ok (.iadd, 1) := by decide +kernel
theorem dX7_layList_143 : decode cX7_layList 143 = .ok (.putfield 95, 3) := by decide +kernel
theorem dX7_layList_146 : decode cX7_layList 146 = .ok (.iload 4, 2) := by decide +kernel
theorem dX7_layList_148 : decode cX7_layList 148 = .ok (.invokestatic 73, 3) := by decide +kernel
theorem dX7_layList_151 : decode cX7_layList 151 = .ok (.ifCond .eq 17, 3) := by decide +kernel
theorem dX7_layList_154 : decode cX7_layList 154 = .ok (.aload_n 0, 1) := by decide +kernel
theorem dX7_layList_155 : decode cX7_layList 155 = .ok (.getfield 39, 3) := by decide +kernel
theorem dX7_layList_158 : decode cX7_layList 158 = .ok (.iload 4, 2) := by decide +kernel
theorem dX7_layList_160 : decode cX7_layList 160 = .ok (.bipush 65, 2) := by decide +kernel
theorem dX7_layList_162 : decode cX7_layList 162 = .ok (.isub, 1) := by decide +kernel
theorem dX7_layList_163 : decode cX7_layList 163 = .ok (.dup2, 1) := by decide +kernel
theorem dX7_layList_164 : decode cX7_layList 164 = .ok (.iaload, 1) := by decide +kernel
theorem dX7_layList_165 : decode cX7_layList 165 = .ok (.iconst 1, 1) := by decide +kernel
theorem dX7_layList_166 : decode cX7_layList 166 = .ok (.iadd, 1) := by decide +kernel
theorem dX7_layList_167 : decode cX7_layList 167 = .ok (.iastore, 1) := by decide +kernel
theorem dX7_layList_168 : decode cX7_layList 168 = .ok (.iinc 3 1, 3) := by decide +kernel
theorem dX7_layList_171 : decode cX7_layList 171 = .ok (.goto (-110), 3) := by decide +kernel
theorem dX7_layList_174 : decode cX7_layList 174 = .ok (.iinc 2 1, 3) := by decide +kernel
theorem dX7_layList_177 : decode cX7_layList 177 = .ok (.goto (-124), 3) := by decide +kernel
theorem dX7_layList_180 : decode cX7_layList 180 = .ok (.iconst 0, 1) := by decide +kernel
theorem dX7_layList_181 : decode cX7_layList 181 = .ok (.istore_n 2, 1) := by decide +kernel
theorem dX7_layList_182 : decode cX7_layList 182 = .ok (.iload_n 2, 1) := by decide +kernel
theorem dX7_layList_183 : decode cX7_layList 183 = .ok (.bipush 26, 2) := by decide +kernel
theorem dX7_layList_185 : decode cX7_layList 185 = .ok (.if_icmp .ge 83, 3) := by decide +kernel
theorem dX7_layList_188 : decode cX7_layList 188 = .ok (.aload_n 0, 1) := by decide +kernel
theorem dX7_layList_189 : decode cX7_layList 189 = .ok (.dup, 1) := by decide +kernel
theorem dX7_layList_190 : decode cX7_layList 190 = .ok (.getfield 98, 3) := by decide +kernel
theorem dX7_layList_193 : decode cX7_layList 193 = .ok (.aload_n 0, 1) := by decide +kernel
theorem dX7_layList_194 : decode cX7_layList 194 = .ok (.getfield 39, 3) := by decide +kernel
theorem dX7_layList_197 : decode cX7_layList 197 = .ok (.iload_n 2, 1) := by decide +kernel
theorem dX7_layList_198 : decode cX7_layList 198 = .ok (.iaload, 1) := by decide +kernel
theorem dX7_layList_199 : decode cX7_layList 199 = .ok (.iconst 1, 1) := by decide +kernel
theorem dX7_layList_200 : decode cX7_layList 200 = .ok (.if_icmp .ne 7, 3) := by decide +kernel
theorem dX7_layList_203 : decode cX7_layList 203 = .ok (.iconst 1, 1) := by decide +kernel
theorem dX7_layList_204 : decode cX7_layList 204 = .ok (.goto 4, 3) := by decide +kernel
theorem dX7_layList_207 : decode cX7_layList 207 = .ok (.iconst 0, 1) := by decide +kernel
theorem dX7_layList_208 : decode cX7_layList 208 = .ok (.iadd, 1) := by decide +kernel
theorem dX7_layList_209 : decode cX7_layList 209 = .ok (.putfield 98, 3) := by decide +kernel
theorem dX7_layList_212 : decode cX7_layList 212 = .ok (.aload_n 0, 1) := by decide +kernel
theorem dX7_layList_213 : decode cX7_layList 213 = .ok (.dup, 1) := by decide +kernel
theorem dX7_layList_214 : decode cX7_layList 214 = .ok (.getfield 101, 3) := by decide +kernel
theorem dX7_layList_217 : decode cX7_layList 217 = .ok (.aload_n 0, 1) := by decide +kernel
theorem dX7_layList_218 : decode cX7_layList 218 = .ok (.getfield 39, 3) := by decide +kernel
theorem dX7_layList_221 : decode cX7_layList 221 = .ok (.iload_n 2, 1) := by decide +kernel
theorem dX7_layList_222 : decode cX7_layList 222 = .ok (.iaload, 1) := by decide +kernel
theorem dX7_layList_223 : decode cX7_layList 223 = .ok (.iconst 2, 1) := by decide +kernel
theorem dX7_layList_224 : decode cX7_layList 224 = .ok (.if_icmp .ne 7, 3) := by decide +kernel
theorem dX7_layList_227 : decode cX7_layList 227 = .ok (.iconst 1, 1) := by decide +kernel
theorem dX7_layList_228 : decode cX7_layList 228 = .ok (.goto 4, 3) := by decide +kernel
theorem dX7_layList_231 : decode cX7_layList 231 = .ok (.iconst 0, 1) := by decide +kernel
theorem dX7_layList_232 : decode cX7_layList 232 = .ok (.iadd, 1) := by decide +kernel
theorem dX7_layList_233 : decode cX7_layList 233 = .ok (.putfield 101, 3) := by decide +kernel
theorem dX7_layList_236 : decode cX7_layList 236 = .ok (.aload_n 0, 1) := by decide +kernel
theorem dX7_layList_237 : decode cX7_layList 237 = .ok (.aload_n 0, 1) := by decide +kernel
theorem dX7_layList_238 : decode cX7_layList 238 = .ok (.getfield 104, 3) := by decide +kernel
theorem dX7_layList_241 : decode cX7_layList 241 = .ok (.ifCond .ne 13, 3) := by decide +kernel
theorem dX7_layList_244 : decode cX7_layList 244 = .ok (.aload_n 0, 1) := by decide +kernel
theorem dX7_layList_245 : decode cX7_layList 245 = .ok (.getfield 39, 3) := by decide +kernel
theorem dX7_layList_248 : decode cX7_layList 248 = .ok (.iload_n 2, 1) := by decide +kernel
theorem dX7_layList_249 : decode cX7_layList 249 = .ok (.iaload, 1) := by decide +kernel
theorem dX7_layList_250 : decode cX7_layList 250 = .ok (.iconst 2, 1) := by decide +kernel
theorem dX7_layList_251 : decode cX7_layList 251 = .ok (.if_icmp .le 7, 3) := by decide +kernel
theorem dX7_layList_254 : decode cX7_layList 254 = .ok (.iconst 1, 1) := by decide +kernel
theorem dX7_layList_255 : decode cX7_layList 255 = .ok (.goto 4, 3) := by decide +kernel
theorem dX7_layList_258 : decode cX7_layList 258 = .ok (.iconst 0, 1) := by decide +kernel
theorem dX7_layList_259 : decode cX7_layList 259 = .ok (.putfield 104, 3) := by decide +kernel
theorem dX7_layList_262 : decode cX7_layList 262 = .ok (.iinc 2 1, 3) := by decide +kernel
theorem dX7_layList_265 : decode cX7_layList 265 = .ok (.goto (-83), 3) := by decide +kernel
theorem dX7_layList_268 : decode cX7_layList 268 = .ok (.return_, 1) := by decide +kernel
theorem dX7_valid_0 : decode cX7_valid 0 = .ok (.iconst 0, 1) := by decide +kernel
theorem dX7_valid_1 : decode cX7_valid 1 = .ok (.istore_n 1, 1) := by decide +kernel
theorem dX7_valid_2 : decode cX7_valid 2 = .ok (.iconst 0, 1) := by decide +kernel
theorem dX7_valid_3 : decode cX7_valid 3 = .ok (.istore_n 2, 1) := by decide +kernel
theorem dX7_valid_4 : decode cX7_valid 4 = .ok (.iload_n 2, 1) := by decide +kernel
theorem dX7_valid_5 : decode cX7_valid 5 = .ok (.bipush 6, 2) := by decide +kernel
theorem dX7_valid_7 : decode cX7_valid 7 = .ok (.if_icmp .ge 28, 3) := by decide +kernel
theorem dX7_valid_10 : decode cX7_valid 10 = .ok (.iload_n 1, 1) := by decide +kernel
theorem dX7_valid_11 : decode cX7_valid 11 = .ok (.aload_n 0, 1) := by decide +kernel
theorem dX7_valid_12 : decode cX7_valid 12 = .ok (.getfield 16, 3) := by decide +kernel
theorem dX7_valid_15 : decode cX7_valid 15 = .ok (.iload_n 2, 1) := by decide +kernel
theorem dX7_valid_16 : decode cX7_valid 16 = .ok (.iaload, 1) := by decide +kernel
theorem dX7_valid_17 : decode cX7_valid 17 = .ok (.ifCond .ne 9, 3) := by decide +kernel
theorem dX7_valid_20 : decode cX7_valid 20 = .ok (.iconst 1, 1) := by decide +kernel
theorem dX7_valid_21 : decode cX7_valid 21 = .ok (.iload_n 2, 1) := by decide +kernel
theorem dX7_valid_22 : decode cX7_valid 22 = .ok (.ishl, 1) := by decide +kernel
theorem dX7_valid_23 : decode cX7_valid 23 = .ok (.goto 4, 3) := by decide +kernel
theorem dX7_valid_26 : decode cX7_valid 26 = .ok (.iconst 0, 1) := by decide +kernel
theorem dX7_valid_27 : decode cX7_valid 27 = .ok (.ior, 1) := by decide +kernel
theorem dX7_valid_28 : decode cX7_valid 28 = .ok (.istore_n 1, 1) := by decide +kernel
theorem dX7_valid_29 : decode cX7_valid 29 = .ok (.iinc 2 1, 3) := by decide +kernel
theorem dX7_valid_32 : decode cX7_valid 32 = .ok (.goto (-28), 3) := by decide +kernel
theorem dX7_valid_35 : decode cX7_valid 35 = .ok (.iload_n 1, 1) := by decide +kernel
theorem dX7_valid_36 : decode cX7_valid 36 = .ok (.ireturn, 1) := by decide +kernel
theorem dX7_good_0 : decode cX7_good 0 = .ok (.aload_n 0, 1) := by decide +kernel
theorem dX7_good_1 : decode cX7_good 1 = .ok (.getfield 95, 3) := by decide +kernel
theorem dX7_good_4 : decode cX7_good 4 = .ok (.aload_n 0, 1) := by decide +kernel
theorem dX7_good_5 : decode cX7_good 5 = .ok (.getfield 98, 3) := by decide +kernel
theorem dX7_good_8 : decode cX7_good 8 = .ok (.iadd, 1) := by decide +kernel
theorem dX7_good_9 : decode cX7_good 9 = .ok (.aload_n 0, 1) := by decide +kernel
theorem dX7_good_10 : decode cX7_good 10 = .ok (.getfield 101, 3) := by decide +kernel
theorem dX7_good_13 : decode cX7_good 13 = .ok (.iadd, 1) := by decide +kernel
theorem dX7_good_14 : decode cX7_good 14 = .ok (.ireturn, 1) := by decide +kernel
theorem dX7_count_0 : decode cX7_count 0 = .ok (.iload_n 1, 1) := by decide +kernel
theorem dX7_count_1 : decode cX7_count 1 = .ok (.iconst 0, 1) := by decide +kernel
theorem dX7_count_2 : decode cX7_count 2 = .ok (.iconst 3, 1) := by decide +kernel
theorem dX7_count_3 : decode cX7_count 3 = .ok (.invokestatic 58, 3) := by decide +kernel
theorem dX7_count_6 : decode cX7_count 6 = .ok (.ifCond .ne 6, 3) := by decide +kernel
theorem dX7_count_9 : decode cX7_count 9 = .ok (.bipush (-2), 2) := by decide +kernel
theorem dX7_count_11 : decode cX7_count 11 = .ok (.ireturn, 1) := by decide +kernel
theorem dX7_count_12 : decode cX7_count 12 = .ok (.aload_n 0, 1) := by decide +kernel
theorem dX7_count_13 : decode cX7_count 13 = .ok (.aload_n 0, 1) := by decide +kernel
theorem dX7_count_14 : decode cX7_count 14 = .ok (.invokevirtual 108, 3) := by decide +kernel
theorem dX7_count_17 : decode cX7_count 17 = .ok (.invokevirtual 111, 3) := by decide +kernel
theorem dX7_count_20 : decode cX7_count 20 = .ok (.iload_n 1, 1) := by decide +kernel
theorem dX7_count_21 : decode cX7_count 21 = .ok (.iconst 1, 1) := by decide +kernel
theorem dX7_count_22 : decode cX7_count 22 = .ok (.if_icmp .le 13, 3) := by decide +kernel
theorem dX7_count_25 : decode cX7_count 25 = .ok (.aload_n 0, 1) := by decide +kernel
theorem dX7_count_26 : decode cX7_count 26 = .ok (.getfield 104, 3) := by decide +kernel
theorem dX7_count_29 : decode cX7_count 29 = .ok (.ifCond .eq 6, 3) := by decide +kernel
theorem dX7_count_32 : decode cX7_count 32 = .ok (.bipush (-3), 2) := by decide +kernel
theorem dX7_count_34 : decode cX7_count 34 = .ok (.ireturn, 1) := by decide +kernel
theorem dX7_count_35 : decode cX7_count 35 = .ok (.iload_n 1, 1) := by decide +kernel
theorem dX7_count_36 : decode cX7_count 36 = .ok (.ifCond .ne 10, 3) := by decide +kernel
theorem dX7_count_39 : decode cX7_count 39 = .ok (.aload_n 0, 1) := by decide +kernel
theorem dX7_count_40 : decode cX7_count 40 = .ok (.getfield 89, 3) := by decide +kernel
theorem dX7_count_43 : decode cX7_count 43 = .ok (.goto 31, 3) := by decide +kernel
theorem dX7_count_46 : decode cX7_count 46 = .ok (.iload_n 1, 1) := by decide +kernel
theorem dX7_count_47 : decode cX7_count 47 = .ok (.iconst 1, 1) := by decide +kernel
theorem dX7_count_48 : decode cX7_count 48 = .ok (.if_icmp .ne 10, 3) := by decide +kernel
theorem dX7_count_51 : decode cX7_count 51 = .ok (.aload_n 0, 1) := by decide +kernel
theorem dX7_count_52 : decode cX7_count 52 = .ok (.getfield 92, 3) := by decide +kernel
theorem dX7_count_55 : decode cX7_count 55 = .ok (.goto 19, 3) := by decide +kernel
theorem dX7_count_58 : decode cX7_count 58 = .ok (.iload_n 1, 1) := by decide +kernel
theorem dX7_count_59 : decode cX7_count 59 = .ok (.iconst 2, 1) := by decide +kernel
theorem dX7_count_60 : decode cX7_count 60 = .ok (.if_icmp .ne 10, 3) := by decide +kernel
theorem dX7_count_63 : decode cX7_count 63 = .ok (.aload_n 0, 1) := by decide +kernel
theorem dX7_count_64 : decode cX7_count 64 = .ok (.getfield 101, 3) := by decide +kernel
theorem dX7_count_67 : decode cX7_count 67 = .ok (.goto 7, 3) := by decide +kernel
theorem dX7_count_70 : decode cX7_count 70 = .ok (.aload_n 0, 1) := by decide +kernel
theorem dX7_count_71 : decode cX7_count 71 = .ok (.invokevirtual 115, 3) := by decide +kernel
theorem dX7_count_74 : decode cX7_count 74 = .ok (.ireturn, 1) := by decide +kernel
theorem dX7_need_0 : decode cX7_need 0 = .ok (.iload_n 1, 1) := by decide +kernel
theorem dX7_need_1 : decode cX7_need 1 = .ok (.iconst 0, 1) := by decide +kernel
theorem dX7_need_2 : decode cX7_need 2 = .ok (.bipush 60, 2) := by decide +kernel
theorem dX7_need_4 : decode cX7_need 4 = .ok (.invokestatic 58, 3) := by decide +kernel
theorem dX7_need_7 : decode cX7_need 7 = .ok (.ifCond .ne 6, 3) := by decide +kernel
theorem dX7_need_10 : decode cX7_need 10 = .ok (.bipush (-2), 2) := by decide +kernel
theorem dX7_need_12 : decode cX7_need 12 = .ok (.ireturn, 1) := by decide +kernel
theorem dX7_need_13 : decode cX7_need 13 = .ok (.aload_n 0, 1) := by decide +kernel
theorem dX7_need_14 : decode cX7_need 14 = .ok (.getfield 25, 3) := by decide +kernel
theorem dX7_need_17 : decode cX7_need 17 = .ok (.istore_n 2, 1) := by decide +kernel
theorem dX7_need_18 : decode cX7_need 18 = .ok (.aload_n 0, 1) := by decide +kernel
theorem dX7_need_19 : decode cX7_need 19 = .ok (.iload_n 1, 1) := by decide +kernel
theorem dX7_need_20 : decode cX7_need 20 = .ok (.putfield 25, 3) := by decide +kernel
theorem dX7_need_23 : decode cX7_need 23 = .ok (.iload_n 2, 1) := by decide +kernel
theorem dX7_need_24 : decode cX7_need 24 = .ok (.ireturn, 1) := by decide +kernel
theorem dX7_rule_0 : decode cX7_rule 0 = .ok (.aload_n 0, 1) := by decide +kernel
theorem dX7_rule_1 : decode cX7_rule 1 = .ok (.invokevirtual 83, 3) := by decide +kernel
theorem dX7_rule_4 : decode cX7_rule 4 = .ok (.ifCond .lt 6, 3) := by decide +kernel
theorem dX7_rule_7 : decode cX7_rule 7 = .ok (.bipush (-5), 2) := by decide +kernel
theorem dX7_rule_9 : decode cX7_rule 9 = .ok (.ireturn, 1) := by decide +kernel
theorem dX7_rule_10 : decode cX7_rule 10 = .ok (.aload_n 0, 1) := by decide +kernel
theorem dX7_rule_11 : decode cX7_rule 11 = .ok (.aload_n 0, 1) := by decide +kernel
theorem dX7_rule_12 : decode cX7_rule 12 = .ok (.getfield 66, 3) := by decide +kernel
theorem dX7_rule_15 : decode cX7_rule 15 = .ok (.putfield 29, 3) := by decide +kernel
theorem dX7_rule_18 : decode cX7_rule 18 = .ok (.iconst 0, 1) := by decide +kernel
theorem dX7_rule_19 : decode cX7_rule 19 = .ok (.istore_n 1, 1) := by decide +kernel
theorem dX7_rule_20 : decode cX7_rule 20 = .ok (.iload_n 1, 1) := by decide +kernel
theorem dX7_rule_21 : decode cX7_rule 21 = .ok (.aload_n 0, 1) := by decide +kernel
theorem dX7_rule_22 : decode cX7_rule 22 = .ok (.getfield 66, 3) := by decide +kernel
theorem dX7_rule_25 : decode cX7_rule 25 = .ok (.if_icmp .ge 21, 3) := by decide +kernel
theorem dX7_rule_28 : decode cX7_rule 28 = .ok (.aload_n 0, 1) := by decide +kernel
theorem dX7_rule_29 : decode cX7_rule 29 = .ok (.getfield 32, 3) := by decide +kernel
theorem dX7_rule_32 : decode cX7_rule 32 = .ok (.iload_n 1, 1) := by decide +kernel
theorem dX7_rule_33 : decode cX7_rule 33 = .ok (.aload_n 0, 1) := by decide +kernel
theorem dX7_rule_34 : decode cX7_rule 34 = .ok (.getfield 7, 3) := by decide +kernel
theorem dX7_rule_37 : decode cX7_rule 37 = .ok (.iload_n 1, 1) := by decide +kernel
theorem dX7_rule_38 : decode cX7_rule 38 = .ok (.iaload, 1) := by decide +kernel
theorem dX7_rule_39 : decode cX7_rule 39 = .ok (.iastore, 1) := by decide +kernel
theorem dX7_rule_40 : decode cX7_rule 40 = .ok (.iinc 1 1, 3) := by decide +kernel
theorem dX7_rule_43 : decode cX7_rule 43 = .ok (.goto (-23), 3) := by decide +kernel
theorem dX7_rule_46 : decode cX7_rule 46 = .ok (.aload_n 0, 1) := by decide +kernel
theorem dX7_rule_47 : decode cX7_rule 47 = .ok (.iconst 0, 1) := by decide +kernel
theorem dX7_rule_48 : decode cX7_rule 48 = .ok (.putfield 66, 3) := by decide +kernel
theorem dX7_rule_51 : decode cX7_rule 51 = .ok (.aload_n 0, 1) := by decide +kernel
theorem dX7_rule_52 : decode cX7_rule 52 = .ok (.getfield 29, 3) := by decide +kernel
theorem dX7_rule_55 : decode cX7_rule 55 = .ok (.ireturn, 1) := by decide +kernel
theorem dX7_comesTo_0 : decode cX7_comesTo 0 = .ok (.iconst 0, 1) := by decide +kernel
theorem dX7_comesTo_1 : decode cX7_comesTo 1 = .ok (.istore 5, 2) := by decide +kernel
theorem dX7_comesTo_3 : decode cX7_comesTo 3 = .ok (.aload_n 0, 1) := by decide +kernel
theorem dX7_comesTo_4 : decode cX7_comesTo 4 = .ok (.getfield 29, 3) := by decide +kernel
theorem dX7_comesTo_7 : decode cX7_comesTo 7 = .ok (.iconst 1, 1) := by decide +kernel
theorem dX7_comesTo_8 : decode cX7_comesTo 8 = .ok (.isub, 1) := by decide +kernel
theorem dX7_comesTo_9 : decode cX7_comesTo 9 = .ok (.istore 6, 2) := by decide +kernel
theorem dX7_comesTo_11 : decode cX7_comesTo 11 = .ok (.iload 6, 2) := by decide +kernel
theorem dX7_comesTo_13 : decode cX7_comesTo 13 = .ok (.ifCond .lt 317, 3) := by decide +kernel
theorem dX7_comesTo_16 : decode cX7_comesTo 16 = .ok (.aload_n 0, 1) := by decide +kernel
theorem dX7_comesTo_17 : decode cX7_comesTo 17 = .ok (.getfield 32, 3) := by decide +kernel
theorem dX7_comesTo_20 : decode cX7_comesTo 20 = .ok (.iload 6, 2) := by decide +kernel
theorem dX7_comesTo_22 : decode cX7_comesTo 22 = .ok (.iaload, 1) := by decide +kernel
theorem dX7_comesTo_23 : decode cX7_comesTo 23 = .ok (.istore 7, 2) := by decide +kernel
theorem dX7_comesTo_25 : decode cX7_comesTo 25 = .ok (.iload 7, 2) := by decide +kernel
theorem dX7_comesTo_27 : decode cX7_comesTo 27 = .ok (.invokestatic 76, 3) := by decide +kernel
theorem dX7_comesTo_30 : decode cX7_comesTo 30 = .ok (.ifCond .eq 221, 3) := by decide +kernel
theorem dX7_comesTo_33 : decode cX7_comesTo 33 = .ok (.aload_n 0, 1) := by decide +kernel
theorem dX7_comesTo_34 : decode cX7_comesTo 34 = .ok (.getfield 42, 3) := by decide +kernel
theorem dX7_comesTo_37 : decode cX7_comesTo 37 = .ok (.iload 5, 2) := by decide +kernel
theorem dX7_comesTo_39 : decode cX7_comesTo 39 = .ok (.iconst 1, 1) := by decide +kernel
theorem dX7_comesTo_40 : decode cX7_comesTo 40 = .ok (.isub, 1) := by decide +kernel
theorem dX7_comesTo_41 : decode cX7_comesTo 41 = .ok (.laload, 1) := by decide +kernel
theorem dX7_comesTo_42 : decode cX7_comesTo 42 = .ok (.lstore 8, 2) := by decide +kernel
theorem dX7_comesTo_44 : decode cX7_comesTo 44 = .ok (.aload_n 0, 1) := by decide +kernel
theorem dX7_comesTo_45 : decode cX7_comesTo 45 = .ok (.getfield 45, 3) := by decide +kernel
theorem dX7_comesTo_48 : decode cX7_comesTo 48 = .ok (.iload 5, 2) := by decide +kernel
theorem dX7_comesTo_50 : decode cX7_comesTo 50 = .ok (.iconst 1, 1) := by decide +kernel
theorem dX7_comesTo_51 : decode cX7_comesTo 51 = .ok (.isub, 1) := by decide +kernel
theorem dX7_comesTo_52 : decode cX7_comesTo 52 = .ok (.laload, 1) := by decide +kernel
theorem dX7_comesTo_53 : decode cX7_comesTo 53 = .ok (.lstore 10, 2) := by decide +kernel
theorem dX7_comesTo_55 : decode cX7_comesTo 55 = .ok (.aload_n 0, 1) := by decide +kernel
theorem dX7_comesTo_56 : decode cX7_comesTo 56 = .ok (.getfield 42, 3) := by decide +kernel
theorem dX7_comesTo_59 : decode cX7_comesTo 59 = .ok (.iload 5, 2) := by decide +kernel
theorem dX7_comesTo_61 : decode cX7_comesTo 61 = .ok (.iconst 2, 1) := by decide +kernel
theorem dX7_comesTo_62 : decode cX7_comesTo 62 = .ok (.isub, 1) := by decide +kernel
theorem dX7_comesTo_63 : decode cX7_comesTo 63 = .ok (.laload, 1) := by decide +kernel
theorem dX7_comesTo_64 : decode cX7_comesTo 64 = .ok (.lstore 12, 2) := by decide +kernel
theorem dX7_comesTo_66 : decode cX7_comesTo 66 = .ok (.aload_n 0, 1) := by decide +kernel
theorem dX7_comesTo_67 : decode cX7_comesTo 67 = .ok (.getfield 45, 3) := by decide +kernel
theorem dX7_comesTo_70 : decode cX7_comesTo 70 = .ok (.iload 5, 2) := by decide +kernel
theorem dX7_comesTo_72 : decode cX7_comesTo 72 = .ok (.iconst 2, 1) := by decide +kernel
theorem dX7_comesTo_73 : decode cX7_comesTo 73 = .ok (.isub, 1) := by decide +kernel
theorem dX7_comesTo_74 : decode cX7_comesTo 74 = .ok (.laload, 1) := by decide +kernel
theorem dX7_comesTo_75 : decode cX7_comesTo 75 = .ok (.lstore 14, 2) := by decide +kernel
theorem dX7_comesTo_77 : decode cX7_comesTo 77 = .ok (.iinc 5 (-1), 3) := by decide +kernel
theorem dX7_comesTo_80 : decode cX7_comesTo 80 = .ok (.iload 7, 2) := by decide +kernel
theorem dX7_comesTo_82 : decode cX7_comesTo 82 = .ok (.bipush 47, 2) := by decide +kernel
theorem dX7_comesTo_84 : decode cX7_comesTo 84 = .ok (.if_icmp .ne 12, 3) := by decide +kernel
theorem dX7_comesTo_87 : decode cX7_comesTo 87 = .ok (.lload 12, 2) := by decide +kernel
theorem dX7_comesTo_89 : decode cX7_comesTo 89 = .ok (.lconst 0, 1) := by decide +kernel
theorem dX7_comesTo_90 : decode cX7_comesTo 90 = .ok (.lcmp, 1) := by decide +kernel
theorem dX7_comesTo_91 : decode cX7_comesTo 91 = .ok (.ifCond .ne 5, 3) := by decide +kernel
theorem dX7_comesTo_94 : decode cX7_comesTo 94 = .ok (.iconst 0, 1) := by decide +kernel
theorem dX7_comesTo_95 : decode cX7_comesTo 95 = .ok (.ireturn, 1) := by decide +kernel
theorem dX7_comesTo_96 : decode cX7_comesTo 96 = .ok (.iload 7, 2) := by decide +kernel
theorem dX7_comesTo_98 : decode cX7_comesTo 98 = .ok (.bipush 43, 2) := by decide +kernel
theorem dX7_comesTo_100 : decode cX7_comesTo 100 = .ok (.if_icmp .ne 17, 3) := by decide +kernel
theorem dX7_comesTo_103 : decode cX7_comesTo 103 = .ok (.lload 8, 2) := by decide +kernel
theorem dX7_comesTo_105 : decode cX7_comesTo 105 = .ok (.lload 14, 2) := by decide +kernel
theorem dX7_comesTo_107 : decode cX7_comesTo 107 = .ok (.lmul, 1) := by decide +kernel
theorem dX7_comesTo_108 : decode cX7_comesTo 108 = .ok (.lload 12, 2) := by decide +kernel
theorem dX7_comesTo_110 : decode cX7_comesTo 110 = .ok (.lload 10, 2) := by decide +kernel
theorem dX7_comesTo_112 : decode cX7_comesTo 112 = .ok (.lmul, 1) := by decide +kernel
theorem dX7_comesTo_113 : decode cX7_comesTo 113 = .ok (.ladd, 1) := by decide +kernel
theorem dX7_comesTo_114 : decode cX7_comesTo 114 = .ok (.goto 60, 3) := by decide +kernel
theorem dX7_comesTo_117 : decode cX7_comesTo 117 = .ok (.iload 7, 2) := by decide +kernel
theorem dX7_comesTo_119 : decode cX7_comesTo 119 = .ok (.bipush 45, 2) := by decide +kernel
theorem dX7_comesTo_121 : decode cX7_comesTo 121 = .ok (.if_icmp .ne 17, 3) := by decide +kernel
theorem dX7_comesTo_124 : decode cX7_comesTo 124 = .ok (.lload 8, 2) := by decide +kernel
theorem dX7_comesTo_126 : decode cX7_comesTo 126 = .ok (.lload 14, 2) := by decide +kernel
theorem dX7_comesTo_128 : decode cX7_comesTo 128 = .ok (.lmul, 1) := by decide +kernel
theorem dX7_comesTo_129 : decode cX7_comesTo 129 = .ok (.lload 12, 2) := by decide +kernel
theorem dX7_comesTo_131 : decode cX7_comesTo 131 = .ok (.lload 10, 2) := by decide +kernel
theorem dX7_comesTo_133 : decode cX7_comesTo 133 = .ok (.lmul, 1) := by decide +kernel
theorem dX7_comesTo_134 : decode cX7_comesTo 134 = .ok (.lsub, 1) := by decide +kernel
theorem dX7_comesTo_135 : decode cX7_comesTo 135 = .ok (.goto 39, 3) := by decide +kernel
theorem dX7_comesTo_138 : decode cX7_comesTo 138 = .ok (.iload 7, 2) := by decide +kernel
theorem dX7_comesTo_140 : decode cX7_comesTo 140 = .ok (.bipush 42, 2) := by decide +kernel
theorem dX7_comesTo_142 : decode cX7_comesTo 142 = .ok (.if_icmp .ne 11, 3) := by decide +kernel
theorem dX7_comesTo_145 : decode cX7_comesTo 145 = .ok (.lload 8, 2) := by decide +kernel
theorem dX7_comesTo_147 : decode cX7_comesTo 147 = .ok (.lload 12, 2) := by decide +kernel
theorem dX7_comesTo_149 : decode cX7_comesTo 149 = .ok (.lmul, 1) := by decide +kernel
theorem dX7_comesTo_150 : decode cX7_comesTo 150 = .ok (.goto 24, 3) := by decide +kernel
theorem dX7_comesTo_153 : decode cX7_comesTo 153 = .ok (.lload 12, 2) := by decide +kernel
theorem dX7_comesTo_155 : decode cX7_comesTo 155 = .ok (.lconst 0, 1) := by decide +kernel
theorem dX7_comesTo_156 : decode cX7_comesTo 156 = .ok (.lcmp, 1) := by decide +kernel
theorem dX7_comesTo_157 : decode cX7_comesTo 157 = .ok (.ifCond .ge 12, 3) := by decide +kernel
theorem dX7_comesTo_160 : decode cX7_comesTo 160 = .ok (.lload 8, 2) := by decide +kernel
theorem dX7_comesTo_162 : decode cX7_comesTo 162 = .ok (.lneg, 1) := by decide +kernel
theorem dX7_comesTo_163 : decode cX7_comesTo 163 = .ok (.lload 14, 2) := by decide +kernel
theorem dX7_comesTo_165 : decode cX7_comesTo 165 = .ok (.lmul, 1) := by decide +kernel
theorem dX7_comesTo_166 : decode cX7_comesTo 166 = .ok (.goto 8, 3) := by decide +kernel
theorem dX7_comesTo_169 : decode cX7_comesTo 169 = .ok (.lload 8, 2) := by decide +kernel
theorem dX7_comesTo_171 : decode cX7_comesTo 171 = .ok (.lload 14, 2) := by decide +kernel
theorem dX7_comesTo_173 : decode cX7_comesTo 173 = .ok (.lmul, 1) := by decide +kernel
theorem dX7_comesTo_174 : decode cX7_comesTo 174 = .ok (.lstore 16, 2) := by decide +kernel
theorem dX7_comesTo_176 : decode cX7_comesTo 176 = .ok (.iload 7, 2) := by decide +kernel
theorem dX7_comesTo_178 : decode cX7_comesTo 178 = .ok (.bipush 47, 2) := by decide +kernel
theorem dX7_comesTo_180 : decode cX7_comesTo 180 = .ok (.if_icmp .ne 24, 3) := by decide +kernel
theorem dX7_comesTo_183 : decode cX7_comesTo 183 = .ok (.lload 10, 2) := by decide +kernel
theorem dX7_comesTo_185 : decode cX7_comesTo 185 = .ok (.lload 12, 2) := by decide +kernel
theorem dX7_comesTo_187 : decode cX7_comesTo 187 = .ok (.lconst 0, 1) := by decide +kernel
theorem dX7_comesTo_188 : decode cX7_comesTo 188 = .ok (.lcmp, 1) := by decide +kernel
theorem dX7_comesTo_189 : decode cX7_comesTo 189 = .ok (.ifCond .ge 9, 3) := by decide +kernel
theorem dX7_comesTo_192 : decode cX7_comesTo 192 = .ok (.lload 12, 2) := by decide +kernel
theorem dX7_comesTo_194 : decode cX7_comesTo 194 = .ok (.lneg, 1) := by decide +kernel
theorem dX7_comesTo_195 : decode cX7_comesTo 195 = .ok (.goto 5, 3) := by decide +kernel
theorem dX7_comesTo_198 : decode cX7_comesTo 198 = .ok (.lload 12, 2) := by decide +kernel
theorem dX7_comesTo_200 : decode cX7_comesTo 200 = .ok (.lmul, 1) := by decide +kernel
theorem dX7_comesTo_201 : decode cX7_comesTo 201 = .ok (.goto 8, 3) := by decide +kernel
theorem dX7_comesTo_204 : decode cX7_comesTo 204 = .ok (.lload 10, 2) := by decide +kernel
theorem dX7_comesTo_206 : decode cX7_comesTo 206 = .ok (.lload 14, 2) := by decide +kernel
theorem dX7_comesTo_208 : decode cX7_comesTo 208 = .ok (.lmul, 1) := by decide +kernel
theorem dX7_comesTo_209 : decode cX7_comesTo 209 = .ok (.lstore 18, 2) := by decide +kernel
theorem dX7_comesTo_211 : decode cX7_comesTo 211 = .ok (.lload 16, 2) := by decide +kernel
theorem dX7_comesTo_213 : decode cX7_comesTo 213 = .ok (.lload 18, 2) := by decide +kernel
theorem dX7_comesTo_215 : decode cX7_comesTo 215 = .ok (.invokestatic 62, 3) := by decide +kernel
theorem dX7_comesTo_218 : decode cX7_comesTo 218 = .ok (.lstore 20, 2) := by decide +kernel
theorem dX7_comesTo_220 : decode cX7_comesTo 220 = .ok (.aload_n 0, 1) := by decide +kernel
theorem dX7_comesTo_221 : decode cX7_comesTo 221 = .ok (.getfield 42, 3) := by decide +kernel
theorem dX7_comesTo_224 : decode cX7_comesTo 224 = .ok (.iload 5, 2) := by decide +kernel
theorem dX7_comesTo_226 : decode cX7_comesTo 226 = .ok (.iconst 1, 1) := by decide +kernel
theorem dX7_comesTo_227 : decode cX7_comesTo 227 = .ok (.isub, 1) := by decide +kernel
theorem dX7_comesTo_228 : decode cX7_comesTo 228 = .ok (.lload 16, 2) := by decide +kernel
theorem dX7_comesTo_230 : decode cX7_comesTo 230 = .ok (.lload 20, 2) := by decide +kernel
theorem dX7_comesTo_232 : decode cX7_comesTo 232 = .ok (.ldiv, 1) := by decide +kernel
theorem dX7_comesTo_233 : decode cX7_comesTo 233 = .ok (.lastore, 1) := by decide +kernel
theorem dX7_comesTo_234 : decode cX7_comesTo 234 = .ok (.aload_n 0, 1) := by decide +kernel
theorem dX7_comesTo_235 : decode cX7_comesTo 235 = .ok (.getfield 45, 3) := by decide +kernel
theorem dX7_comesTo_238 : decode cX7_comesTo 238 = .ok (.iload 5, 2) := by decide +kernel
theorem dX7_comesTo_240 : decode cX7_comesTo 240 = .ok (.iconst 1, 1) := by decide +kernel
theorem dX7_comesTo_241 : decode cX7_comesTo 241 = .ok (.isub, 1) := by decide +kernel
theorem dX7_comesTo_242 : decode cX7_comesTo 242 = .ok (.lload 18, 2) := by decide +kernel
theorem dX7_comesTo_244 : decode cX7_comesTo 244 = .ok (.lload 20, 2) := by decide +kernel
theorem dX7_comesTo_246 : decode cX7_comesTo 246 = .ok (.ldiv, 1) := by decide +kernel
theorem dX7_comesTo_247 : decode cX7_comesTo 247 = .ok (.lastore, 1) := by decide +kernel
theorem dX7_comesTo_248 : decode cX7_comesTo 248 = .ok (.goto 76, 3) := by decide +kernel
theorem dX7_comesTo_251 : decode cX7_comesTo 251 = .ok (.aload_n 0, 1) := by decide +kernel
theorem dX7_comesTo_252 : decode cX7_comesTo 252 = .ok (.getfield 42, 3) := by decide +kernel
theorem dX7_comesTo_255 : decode cX7_comesTo 255 = .ok (.iload 5, 2) := by decide +kernel
theorem dX7_comesTo_257 : decode cX7_comesTo 257 = .ok (.iload 7, 2) := by decide +kernel
theorem dX7_comesTo_259 : decode cX7_comesTo 259 = .ok (.bipush 78, 2) := by decide +kernel
theorem dX7_comesTo_261 : decode cX7_comesTo 261 = .ok (.if_icmp .ne 8, 3) := by decide +kernel
theorem dX7_comesTo_264 : decode cX7_comesTo 264 = .ok (.iload_n 1, 1) := by decide +kernel
theorem dX7_comesTo_265 : decode cX7_comesTo 265 = .ok (.i2l, 1) := by decide +kernel
theorem dX7_comesTo_266 : decode cX7_comesTo 266 = .ok (.goto 46, 3) := by decide +kernel
theorem dX7_comesTo_269 : decode cX7_comesTo 269 = .ok (.iload 7, 2) := by decide +kernel
theorem dX7_comesTo_271 : decode cX7_comesTo 271 = .ok (.bipush 107, 2) := by decide +kernel
theorem dX7_comesTo_273 : decode cX7_comesTo 273 = .ok (.if_icmp .ne 8, 3) := by decide +kernel
theorem dX7_comesTo_276 : decode cX7_comesTo 276 = .ok (.iload_n 2, 1) := by decide +kernel
theorem dX7_comesTo_277 : decode cX7_comesTo 277 = .ok (.i2l, 1) := by decide +kernel
theorem dX7_comesTo_278 : decode cX7_comesTo 278 = .ok (.goto 34, 3) := by decide +kernel
theorem dX7_comesTo_281 : decode cX7_comesTo 281 = .ok (.iload 7, 2) := by decide +kernel
theorem dX7_comesTo_283 : decode cX7_comesTo 283 = .ok (.bipush 118, 2) := by decide +kernel
theorem dX7_comesTo_285 : decode cX7_comesTo 285 = .ok (.if_icmp .ne 8, 3) := by decide +kernel
theorem dX7_comesTo_288 : decode cX7_comesTo 288 = .ok (.iload_n 3, 1) := by decide +kernel
theorem dX7_comesTo_289 : decode cX7_comesTo 289 = .ok (.i2l, 1) := by decide +kernel
theorem dX7_comesTo_290 : decode cX7_comesTo 290 = .ok (.goto 22, 3) := by decide +kernel
theorem dX7_comesTo_293 : decode cX7_comesTo 293 = .ok (.iload 7, 2) := by decide +kernel
theorem dX7_comesTo_295 : decode cX7_comesTo 295 = .ok (.bipush 100, 2) := by decide +kernel
theorem dX7_comesTo_297 : decode cX7_comesTo 297 = .ok (.if_icmp .ne 9, 3) := by decide +kernel
theorem dX7_comesTo_300 : decode cX7_comesTo 300 = .ok (.iload 4, 2) := by decide +kernel
theorem dX7_comesTo_302 : decode cX7_comesTo 302 = .ok (.i2l, 1) := by decide +kernel
theorem dX7_comesTo_303 : decode cX7_comesTo 303 = .ok (.goto 9, 3) := by decide +kernel
theorem dX7_comesTo_306 : decode cX7_comesTo 306 = .ok (.iload 7, 2) := by decide +kernel
theorem dX7_comesTo_308 : decode cX7_comesTo 308 = .ok (.bipush 48, 2) := by decide +kernel
theorem dX7_comesTo_310 : decode cX7_comesTo 310 = .ok (.isub, 1) := by decide +kernel
theorem dX7_comesTo_311 : decode cX7_comesTo 311 = .ok (.i2l, 1) := by decide +kernel
theorem dX7_comesTo_312 : decode cX7_comesTo 312 = .ok (.lastore, 1) := by decide +kernel
theorem dX7_comesTo_313 : decode cX7_comesTo 313 = .ok (.aload_n 0, 1) := by decide +kernel
theorem dX7_comesTo_314 : decode cX7_comesTo 314 = .ok (.getfield 45, 3) := by decide +kernel
theorem dX7_comesTo_317 : decode cX7_comesTo 317 = .ok (.iload 5, 2) := by decide +kernel
theorem dX7_comesTo_319 : decode cX7_comesTo 319 = .ok (.lconst 1, 1) := by decide +kernel
theorem dX7_comesTo_320 : decode cX7_comesTo 320 = .ok (.lastore, 1) := by decide +kernel
theorem dX7_comesTo_321 : decode cX7_comesTo 321 = .ok (.iinc 5 1, 3) := by decide +kernel
theorem dX7_comesTo_324 : decode cX7_comesTo 324 = .ok (.iinc 6 (-1), 3) := by decide +kernel
theorem dX7_comesTo_327 : decode cX7_comesTo 327 = .ok (.goto (-316), 3) := by decide +kernel
theorem dX7_comesTo_330 : decode cX7_comesTo 330 = .ok (.aload_n 0, 1) := by decide +kernel
theorem dX7_comesTo_331 : decode cX7_comesTo 331 = .ok (.aload_n 0, 1) := by decide +kernel
theorem dX7_comesTo_332 : decode cX7_comesTo 332 = .ok (.getfield 42, 3) := by decide +kernel
theorem dX7_comesTo_335 : decode cX7_comesTo 335 = .ok (.iconst 0, 1) := by decide +kernel
theorem dX7_comesTo_336 : decode cX7_comesTo 336 = .ok (.laload, 1) := by decide +kernel
theorem dX7_comesTo_337 : decode cX7_comesTo 337 = .ok (.putfield 118, 3) := by decide +kernel
theorem dX7_comesTo_340 : decode cX7_comesTo 340 = .ok (.aload_n 0, 1) := by decide +kernel
theorem dX7_comesTo_341 : decode cX7_comesTo 341 = .ok (.aload_n 0, 1) := by decide +kernel
theorem dX7_comesTo_342 : decode cX7_comesTo 342 = .ok (.getfield 45, 3) := by decide +kernel
theorem dX7_comesTo_345 : decode cX7_comesTo 345 = .ok (.iconst 0, 1) := by decide +kernel
theorem dX7_comesTo_346 : decode cX7_comesTo 346 = .ok (.laload, 1) := by decide +kernel
theorem dX7_comesTo_347 : decode cX7_comesTo 347 = .ok (.putfield 122, 3) := by decide +kernel
theorem dX7_comesTo_350 : decode cX7_comesTo 350 = .ok (.iconst 1, 1) := by decide +kernel
theorem dX7_comesTo_351 : decode cX7_comesTo 351 = .ok (.ireturn, 1) := by decide +kernel
theorem dX7_saysYes_0 : decode cX7_saysYes 0 = .ok (.aload_n 0, 1) := by decide +kernel
theorem dX7_saysYes_1 : decode cX7_saysYes 1 = .ok (.iload_n 1, 1) := by decide +kernel
theorem dX7_saysYes_2 : decode cX7_saysYes 2 = .ok (.iload_n 2, 1) := by decide +kernel
theorem dX7_saysYes_3 : decode cX7_saysYes 3 = .ok (.iload_n 3, 1) := by decide +kernel
theorem dX7_saysYes_4 : decode cX7_saysYes 4 = .ok (.iload 4, 2) := by decide +kernel
theorem dX7_saysYes_6 : decode cX7_saysYes 6 = .ok (.invokevirtual 125, 3) := by decide +kernel
theorem dX7_saysYes_9 : decode cX7_saysYes 9 = .ok (.ifCond .eq 25, 3) := by decide +kernel
theorem dX7_saysYes_12 : decode cX7_saysYes 12 = .ok (.aload_n 0, 1) := by decide +kernel
theorem dX7_saysYes_13 : decode cX7_saysYes 13 = .ok (.getfield 118, 3) := by decide +kernel
theorem dX7_saysYes_16 : decode cX7_saysYes 16 = .ok (.aload_n 0, 1) := by decide +kernel
theorem dX7_saysYes_17 : decode cX7_saysYes 17 = .ok (.getfield 25, 3) := by decide +kernel
theorem dX7_saysYes_20 : decode cX7_saysYes 20 = .ok (.i2l, 1) := by decide +kernel
theorem dX7_saysYes_21 : decode cX7_saysYes 21 = .ok (.aload_n 0, 1) := by decide +kernel
theorem dX7_saysYes_22 : decode cX7_saysYes 22 = .ok (.getfield 122, 3) := by decide +kernel
theorem dX7_saysYes_25 : decode cX7_saysYes 25 = .ok (.lmul, 1) := by decide +kernel
theorem dX7_saysYes_26 : decode cX7_saysYes 26 = .ok (.lcmp, 1) := by decide +kernel
theorem dX7_saysYes_27 : decode cX7_saysYes 27 = .ok (.ifCond .lt 7, 3) := by decide +kernel
theorem dX7_saysYes_30 : decode cX7_saysYes 30 = .ok (.iconst 1, 1) := by decide +kernel
theorem dX7_saysYes_31 : decode cX7_saysYes 31 = .ok (.goto 4, 3) := by decide +kernel
theorem dX7_saysYes_34 : decode cX7_saysYes 34 = .ok (.iconst 0, 1) := by decide +kernel
theorem dX7_saysYes_35 : decode cX7_saysYes 35 = .ok (.ireturn, 1) := by decide +kernel
theorem dX7_comes_0 : decode cX7_comes 0 = .ok (.iload_n 1, 1) := by decide +kernel
theorem dX7_comes_1 : decode cX7_comes 1 = .ok (.iconst 0, 1) := by decide +kernel
theorem dX7_comes_2 : decode cX7_comes 2 = .ok (.bipush 60, 2) := by decide +kernel
theorem dX7_comes_4 : decode cX7_comes 4 = .ok (.invokestatic 58, 3) := by decide +kernel
theorem dX7_comes_7 : decode cX7_comes 7 = .ok (.ifCond .eq 42, 3) := by decide +kernel
theorem dX7_comes_10 : decode cX7_comes 10 = .ok (.iload_n 2, 1) := by decide +kernel
theorem dX7_comes_11 : decode cX7_comes 11 = .ok (.iconst 0, 1) := by decide +kernel
theorem dX7_comes_12 : decode cX7_comes 12 = .ok (.bipush 60, 2) := by decide +kernel
theorem dX7_comes_14 : decode cX7_comes 14 = .ok (.invokestatic 58, 3) := by decide +kernel
theorem dX7_comes_17 : decode cX7_comes 17 = .ok (.ifCond .eq 32, 3) := by decide +kernel
theorem dX7_comes_20 : decode cX7_comes 20 = .ok (.iload_n 3, 1) := by decide +kernel
theorem dX7_comes_21 : decode cX7_comes 21 = .ok (.iconst 0, 1) := by decide +kernel
theorem dX7_comes_22 : decode cX7_comes 22 = .ok (.bipush 60, 2) := by decide +kernel
theorem dX7_comes_24 : decode cX7_comes 24 = .ok (.invokestatic 58, 3) := by decide +kernel
theorem dX7_comes_27 : decode cX7_comes 27 = .ok (.ifCond .eq 22, 3) := by decide +kernel
theorem dX7_comes_30 : decode cX7_comes 30 = .ok (.iload 4, 2) := by decide +kernel
theorem dX7_comes_32 : decode cX7_comes 32 = .ok (.iconst 0, 1) := by decide +kernel
theorem dX7_comes_33 : decode cX7_comes 33 = .ok (.bipush 60, 2) := by decide +kernel
theorem dX7_comes_35 : decode cX7_comes 35 = .ok (.invokestatic 58, 3) := by decide +kernel
theorem dX7_comes_38 : decode cX7_comes 38 = .ok (.ifCond .eq 11, 3) := by decide +kernel
theorem dX7_comes_41 : decode cX7_comes 41 = .ok (.iload 5, 2) := by decide +kernel
theorem dX7_comes_43 : decode cX7_comes 43 = .ok (.invokestatic 129, 3) := by decide +kernel
theorem dX7_comes_46 : decode cX7_comes 46 = .ok (.ifCond .ne 7, 3) := by decide +kernel
theorem dX7_comes_49 : decode cX7_comes 49 = .ok (.ldc2_w 132, 3) := by decide +kernel
theorem dX7_comes_52 : decode cX7_comes 52 = .ok (.lreturn, 1) := by decide +kernel
theorem dX7_comes_53 : decode cX7_comes 53 = .ok (.aload_n 0, 1) := by decide +kernel
theorem dX7_comes_54 : decode cX7_comes 54 = .ok (.iload_n 1, 1) := by decide +kernel
theorem dX7_comes_55 : decode cX7_comes 55 = .ok (.iload_n 2, 1) := by decide +kernel
theorem dX7_comes_56 : decode cX7_comes 56 = .ok (.iload_n 3, 1) := by decide +kernel
theorem dX7_comes_57 : decode cX7_comes 57 = .ok (.iload 4, 2) := by decide +kernel
theorem dX7_comes_59 : decode cX7_comes 59 = .ok (.invokevirtual 125, 3) := by decide +kernel
theorem dX7_comes_62 : decode cX7_comes 62 = .ok (.ifCond .ne 9, 3) := by decide +kernel
theorem dX7_comes_65 : decode cX7_comes 65 = .ok (.ldc2_w 134, 3) := by decide +kernel
theorem dX7_comes_68 : decode cX7_comes 68 = .ok (.goto 19, 3) := by decide +kernel
theorem dX7_comes_71 : decode cX7_comes 71 = .ok (.iload 5, 2) := by decide +kernel
theorem dX7_comes_73 : decode cX7_comes 73 = .ok (.ifCond .ne 10, 3) := by decide +kernel
theorem dX7_comes_76 : decode cX7_comes 76 = .ok (.aload_n 0, 1) := by decide +kernel
theorem dX7_comes_77 : decode cX7_comes 77 = .ok (.getfield 118, 3) := by decide +kernel
theorem dX7_comes_80 : decode cX7_comes 80 = .ok (.goto 7, 3) := by decide +kernel
theorem dX7_comes_83 : decode cX7_comes 83 = .ok (.aload_n 0, 1) := by decide +kernel
theorem dX7_comes_84 : decode cX7_comes 84 = .ok (.getfield 122, 3) := by decide +kernel
theorem dX7_comes_87 : decode cX7_comes 87 = .ok (.lreturn, 1) := by decide +kernel
theorem dX7_yesOf_0 : decode cX7_yesOf 0 = .ok (.iconst 2, 1) := by decide +kernel
theorem dX7_yesOf_1 : decode cX7_yesOf 1 = .ok (.iload_n 1, 1) := by decide +kernel
theorem dX7_yesOf_2 : decode cX7_yesOf 2 = .ok (.imul, 1) := by decide +kernel
theorem dX7_yesOf_3 : decode cX7_yesOf 3 = .ok (.iload_n 2, 1) := by decide +kernel
theorem dX7_yesOf_4 : decode cX7_yesOf 4 = .ok (.iadd, 1) := by decide +kernel
theorem dX7_yesOf_5 : decode cX7_yesOf 5 = .ok (.iload_n 3, 1) := by decide +kernel
theorem dX7_yesOf_6 : decode cX7_yesOf 6 = .ok (.iadd, 1) := by decide +kernel
theorem dX7_yesOf_7 : decode cX7_yesOf 7 = .ok (.istore 5, 2) := by decide +kernel
theorem dX7_yesOf_9 : decode cX7_yesOf 9 = .ok (.lconst 0, 1) := by decide +kernel
theorem dX7_yesOf_10 : decode cX7_yesOf 10 = .ok (.lstore 6, 2) := by decide +kernel
theorem dX7_yesOf_12 : decode cX7_yesOf 12 = .ok (.iconst 0, 1) := by decide +kernel
theorem dX7_yesOf_13 : decode cX7_yesOf 13 = .ok (.istore 8, 2) := by decide +kernel
theorem dX7_yesOf_15 : decode cX7_yesOf 15 = .ok (.iload 8, 2) := by decide +kernel
theorem dX7_yesOf_17 : decode cX7_yesOf 17 = .ok (.iload_n 1, 1) := by decide +kernel
theorem dX7_yesOf_18 : decode cX7_yesOf 18 = .ok (.if_icmp .gt 112, 3) := by decide +kernel
theorem dX7_yesOf_21 : decode cX7_yesOf 21 = .ok (.iconst 2, 1) := by decide +kernel
theorem dX7_yesOf_22 : decode cX7_yesOf 22 = .ok (.iload 8, 2) := by decide +kernel
theorem dX7_yesOf_24 : decode cX7_yesOf 24 = .ok (.imul, 1) := by decide +kernel
theorem dX7_yesOf_25 : decode cX7_yesOf 25 = .ok (.iload 4, 2) := by decide +kernel
theorem dX7_yesOf_27 : decode cX7_yesOf 27 = .ok (.if_icmp .gt 103, 3) := by decide +kernel
theorem dX7_yesOf_30 : decode cX7_yesOf 30 = .ok (.iconst 2, 1) := by decide +kernel
theorem dX7_yesOf_31 : decode cX7_yesOf 31 = .ok (.iload 8, 2) := by decide +kernel
theorem dX7_yesOf_33 : decode cX7_yesOf 33 = .ok (.imul, 1) := by decide +kernel
theorem dX7_yesOf_34 : decode cX7_yesOf 34 = .ok (.istore 9, 2) := by decide +kernel
theorem dX7_yesOf_36 : decode cX7_yesOf 36 = .ok (.iload 9, 2) := by decide +kernel
theorem dX7_yesOf_38 : decode cX7_yesOf 38 = .ok (.iload 4, 2) := by decide +kernel
theorem dX7_yesOf_40 : decode cX7_yesOf 40 = .ok (.if_icmp .gt 84, 3) := by decide +kernel
theorem dX7_yesOf_43 : decode cX7_yesOf 43 = .ok (.aload_n 0, 1) := by decide +kernel
theorem dX7_yesOf_44 : decode cX7_yesOf 44 = .ok (.iload_n 3, 1) := by decide +kernel
theorem dX7_yesOf_45 : decode cX7_yesOf 45 = .ok (.iload 4, 2) := by decide +kernel
theorem dX7_yesOf_47 : decode cX7_yesOf 47 = .ok (.iload 9, 2) := by decide +kernel
theorem dX7_yesOf_49 : decode cX7_yesOf 49 = .ok (.isub, 1) := by decide +kernel
theorem dX7_yesOf_50 : decode cX7_yesOf 50 = .ok (.invokevirtual 136, 3) := by decide +kernel
theorem dX7_yesOf_53 : decode cX7_yesOf 53 = .ok (.lconst 0, 1) := by decide +kernel
theorem dX7_yesOf_54 : decode cX7_yesOf 54 = .ok (.lcmp, 1) := by decide +kernel
theorem dX7_yesOf_55 : decode cX7_yesOf 55 = .ok (.ifCond .ne 7, 3) := by decide +kernel
theorem dX7_yesOf_58 : decode cX7_yesOf 58 = .ok (.lconst 0, 1) := by decide +kernel
theorem dX7_yesOf_59 : decode cX7_yesOf 59 = .ok (.goto 13, 3) := by decide +kernel
theorem dX7_yesOf_62 : decode cX7_yesOf 62 = .ok (.aload_n 0, 1) := by decide +kernel
theorem dX7_yesOf_63 : decode cX7_yesOf 63 = .ok (.iload_n 1, 1) := by decide +kernel
theorem dX7_yesOf_64 : decode cX7_yesOf 64 = .ok (.iload_n 2, 1) := by decide +kernel
theorem dX7_yesOf_65 : decode cX7_yesOf 65 = .ok (.iload 8, 2) := by decide +kernel
theorem dX7_yesOf_67 : decode cX7_yesOf 67 = .ok (.iload 9, 2) := by decide +kernel
theorem dX7_yesOf_69 : decode cX7_yesOf 69 = .ok (.invokevirtual 140, 3) := by decide +kernel
theorem dX7_yesOf_72 : decode cX7_yesOf 72 = .ok (.lstore 10, 2) := by decide +kernel
theorem dX7_yesOf_74 : decode cX7_yesOf 74 = .ok (.lload 6, 2) := by decide +kernel
theorem dX7_yesOf_76 : decode cX7_yesOf 76 = .ok (.lload 10, 2) := by decide +kernel
theorem dX7_yesOf_78 : decode cX7_yesOf 78 = .ok (.lconst 0, 1) := by decide +kernel
theorem dX7_yesOf_79 : decode cX7_yesOf 79 = .ok (.lcmp, 1) := by decide +kernel
theorem dX7_yesOf_80 : decode cX7_yesOf 80 = .ok (.ifCond .le 34, 3) := by decide +kernel
theorem dX7_yesOf_83 : decode cX7_yesOf 83 = .ok (.aload_n 0, 1) := by decide +kernel
theorem dX7_yesOf_84 : decode cX7_yesOf 84 = .ok (.iload 5, 2) := by decide +kernel
theorem dX7_yesOf_86 : decode cX7_yesOf 86 = .ok (.iload 4, 2) := by decide +kernel
theorem dX7_yesOf_88 : decode cX7_yesOf 88 = .ok (.iload 9, 2) := by decide +kernel
theorem dX7_yesOf_90 : decode cX7_yesOf 90 = .ok (.iload 8, 2) := by decide +kernel
theorem dX7_yesOf_92 : decode cX7_yesOf 92 = .ok (.invokevirtual 144, 3) := by decide +kernel
theorem dX7_yesOf_95 : decode cX7_yesOf 95 = .ok (.ifCond .eq 19, 3) := by decide +kernel
theorem dX7_yesOf_98 : decode cX7_yesOf 98 = .ok (.lload 10, 2) := by decide +kernel
theorem dX7_yesOf_100 : decode cX7_yesOf 100 = .ok (.aload_n 0, 1) := by decide +kernel
theorem dX7_yesOf_101 : decode cX7_yesOf 101 = .ok (.iload_n 3, 1) := by decide +kernel
theorem dX7_yesOf_102 : decode cX7_yesOf 102 = .ok (.iload 4, 2) := by decide +kernel
theorem dX7_yesOf_104 : decode cX7_yesOf 104 = .ok (.iload 9, 2) := by decide +kernel
theorem dX7_yesOf_106 : decode cX7_yesOf 106 = .ok (.isub, 1) := by decide +kernel
theorem dX7_yesOf_107 : decode cX7_yesOf 107 = .ok (.invokevirtual 136, 3) := by decide +kernel
theorem dX7_yesOf_110 : decode cX7_yesOf 110 = .ok (.lmul, 1) := by decide +kernel
theorem dX7_yesOf_111 : decode cX7_yesOf 111 = .ok (.goto 4, 3) := by decide +kernel
theorem dX7_yesOf_114 : decode cX7_yesOf 114 = .ok (.lconst 0, 1) := by decide +kernel
theorem dX7_yesOf_115 : decode cX7_yesOf 115 = .ok (.ladd, 1) := by decide +kernel
theorem dX7_yesOf_116 : decode cX7_yesOf 116 = .ok (.lstore 6, 2) := by decide +kernel
theorem dX7_yesOf_118 : decode cX7_yesOf 118 = .ok (.iinc 9 1, 3) := by decide +kernel
theorem dX7_yesOf_121 : decode cX7_yesOf 121 = .ok (.goto (-85), 3) := by decide +kernel
theorem dX7_yesOf_124 : decode cX7_yesOf 124 = .ok (.iinc 8 1, 3) := by decide +kernel
theorem dX7_yesOf_127 : decode cX7_yesOf 127 = .ok (.goto (-112), 3) := by decide +kernel
theorem dX7_yesOf_130 : decode cX7_yesOf 130 = .ok (.lload 6, 2) := by decide +kernel
theorem dX7_yesOf_132 : decode cX7_yesOf 132 = .ok (.lreturn, 1) := by decide +kernel
theorem dX7_lotsOf_0 : decode cX7_lotsOf 0 = .ok (.lconst 0, 1) := by decide +kernel
theorem dX7_lotsOf_1 : decode cX7_lotsOf 1 = .ok (.lstore 5, 2) := by decide +kernel
theorem dX7_lotsOf_3 : decode cX7_lotsOf 3 = .ok (.iconst 0, 1) := by decide +kernel
theorem dX7_lotsOf_4 : decode cX7_lotsOf 4 = .ok (.istore 7, 2) := by decide +kernel
theorem dX7_lotsOf_6 : decode cX7_lotsOf 6 = .ok (.iload 7, 2) := by decide +kernel
theorem dX7_lotsOf_8 : decode cX7_lotsOf 8 = .ok (.iload_n 1, 1) := by decide +kernel
theorem dX7_lotsOf_9 : decode cX7_lotsOf 9 = .ok (.iload_n 3, 1) := by decide +kernel
theorem dX7_lotsOf_10 : decode cX7_lotsOf 10 = .ok (.isub, 1) := by decide +kernel
theorem dX7_lotsOf_11 : decode cX7_lotsOf 11 = .ok (.if_icmp .gt 61, 3) := by decide +kernel
theorem dX7_lotsOf_14 : decode cX7_lotsOf 14 = .ok (.iconst 2, 1) := by decide +kernel
theorem dX7_lotsOf_15 : decode cX7_lotsOf 15 = .ok (.iload_n 3, 1) := by decide +kernel
theorem dX7_lotsOf_16 : decode cX7_lotsOf 16 = .ok (.imul, 1) := by decide +kernel
theorem dX7_lotsOf_17 : decode cX7_lotsOf 17 = .ok (.iload 7, 2) := by decide +kernel
theorem dX7_lotsOf_19 : decode cX7_lotsOf 19 = .ok (.iadd, 1) := by decide +kernel
theorem dX7_lotsOf_20 : decode cX7_lotsOf 20 = .ok (.iload 4, 2) := by decide +kernel
theorem dX7_lotsOf_22 : decode cX7_lotsOf 22 = .ok (.if_icmp .gt 50, 3) := by decide +kernel
theorem dX7_lotsOf_25 : decode cX7_lotsOf 25 = .ok (.lload 5, 2) := by decide +kernel
theorem dX7_lotsOf_27 : decode cX7_lotsOf 27 = .ok (.aload_n 0, 1) := by decide +kernel
theorem dX7_lotsOf_28 : decode cX7_lotsOf 28 = .ok (.iload_n 1, 1) := by decide +kernel
theorem dX7_lotsOf_29 : decode cX7_lotsOf 29 = .ok (.iload_n 3, 1) := by decide +kernel
theorem dX7_lotsOf_30 : decode cX7_lotsOf 30 = .ok (.invokevirtual 136, 3) := by decide +kernel
theorem dX7_lotsOf_33 : decode cX7_lotsOf 33 = .ok (.aload_n 0, 1) := by decide +kernel
theorem dX7_lotsOf_34 : decode cX7_lotsOf 34 = .ok (.iload_n 1, 1) := by decide +kernel
theorem dX7_lotsOf_35 : decode cX7_lotsOf 35 = .ok (.iload_n 3, 1) := by decide +kernel
theorem dX7_lotsOf_36 : decode cX7_lotsOf 36 = .ok (.isub, 1) := by decide +kernel
theorem dX7_lotsOf_37 : decode cX7_lotsOf 37 = .ok (.iload 7, 2) := by decide +kernel
theorem dX7_lotsOf_39 : decode cX7_lotsOf 39 = .ok (.invokevirtual 136, 3) := by decide +kernel
theorem dX7_lotsOf_42 : decode cX7_lotsOf 42 = .ok (.lmul, 1) := by decide +kernel
theorem dX7_lotsOf_43 : decode cX7_lotsOf 43 = .ok (.lconst 1, 1) := by decide +kernel
theorem dX7_lotsOf_44 : decode cX7_lotsOf 44 = .ok (.iload 7, 2) := by decide +kernel
theorem dX7_lotsOf_46 : decode cX7_lotsOf 46 = .ok (.lshl, 1) := by decide +kernel
theorem dX7_lotsOf_47 : decode cX7_lotsOf 47 = .ok (.lmul, 1) := by decide +kernel
theorem dX7_lotsOf_48 : decode cX7_lotsOf 48 = .ok (.aload_n 0, 1) := by decide +kernel
theorem dX7_lotsOf_49 : decode cX7_lotsOf 49 = .ok (.iload_n 2, 1) := by decide +kernel
theorem dX7_lotsOf_50 : decode cX7_lotsOf 50 = .ok (.iload 4, 2) := by decide +kernel
theorem dX7_lotsOf_52 : decode cX7_lotsOf 52 = .ok (.iconst 2, 1) := by decide +kernel
theorem dX7_lotsOf_53 : decode cX7_lotsOf 53 = .ok (.iload_n 3, 1) := by decide +kernel
theorem dX7_lotsOf_54 : decode cX7_lotsOf 54 = .ok (.imul, 1) := by decide +kernel
theorem dX7_lotsOf_55 : decode cX7_lotsOf 55 = .ok (.isub, 1) := by decide +kernel
theorem dX7_lotsOf_56 : decode cX7_lotsOf 56 = .ok (.iload 7, 2) := by decide +kernel
theorem dX7_lotsOf_58 : decode cX7_lotsOf 58 = .ok (.isub, 1) := by decide +kernel
theorem dX7_lotsOf_59 : decode cX7_lotsOf 59 = .ok (.invokevirtual 136, 3) := by decide +kernel
theorem dX7_lotsOf_62 : decode cX7_lotsOf 62 = .ok (.lmul, 1) := by decide +kernel
theorem dX7_lotsOf_63 : decode cX7_lotsOf 63 = .ok (.ladd, 1) := by decide +kernel
theorem dX7_lotsOf_64 : decode cX7_lotsOf 64 = .ok (.lstore 5, 2) := by decide +kernel
theorem dX7_lotsOf_66 : decode cX7_lotsOf 66 = .ok (.iinc 7 1, 3) := by decide +kernel
theorem dX7_lotsOf_69 : decode cX7_lotsOf 69 = .ok (.goto (-63), 3) := by decide +kernel
theorem dX7_lotsOf_72 : decode cX7_lotsOf 72 = .ok (.lload 5, 2) := by decide +kernel
theorem dX7_lotsOf_74 : decode cX7_lotsOf 74 = .ok (.lreturn, 1) := by decide +kernel
theorem dX7_yesNow_0 : decode cX7_yesNow 0 = .ok (.aload_n 0, 1) := by decide +kernel
theorem dX7_yesNow_1 : decode cX7_yesNow 1 = .ok (.aload_n 0, 1) := by decide +kernel
theorem dX7_yesNow_2 : decode cX7_yesNow 2 = .ok (.getfield 101, 3) := by decide +kernel
theorem dX7_yesNow_5 : decode cX7_yesNow 5 = .ok (.aload_n 0, 1) := by decide +kernel
theorem dX7_yesNow_6 : decode cX7_yesNow 6 = .ok (.getfield 95, 3) := by decide +kernel
theorem dX7_yesNow_9 : decode cX7_yesNow 9 = .ok (.aload_n 0, 1) := by decide +kernel
theorem dX7_yesNow_10 : decode cX7_yesNow 10 = .ok (.getfield 98, 3) := by decide +kernel
theorem dX7_yesNow_13 : decode cX7_yesNow 13 = .ok (.iadd, 1) := by decide +kernel
theorem dX7_yesNow_14 : decode cX7_yesNow 14 = .ok (.aload_n 0, 1) := by decide +kernel
theorem dX7_yesNow_15 : decode cX7_yesNow 15 = .ok (.getfield 92, 3) := by decide +kernel
theorem dX7_yesNow_18 : decode cX7_yesNow 18 = .ok (.iload_n 1, 1) := by decide +kernel
theorem dX7_yesNow_19 : decode cX7_yesNow 19 = .ok (.invokevirtual 147, 3) := by decide +kernel
theorem dX7_yesNow_22 : decode cX7_yesNow 22 = .ok (.lreturn, 1) := by decide +kernel
theorem dX7_barOfLot_0 : decode cX7_barOfLot 0 = .ok (.aload_n 0, 1) := by decide +kernel
theorem dX7_barOfLot_1 : decode cX7_barOfLot 1 = .ok (.aload_n 0, 1) := by decide +kernel
theorem dX7_barOfLot_2 : decode cX7_barOfLot 2 = .ok (.invokevirtual 108, 3) := by decide +kernel
theorem dX7_barOfLot_5 : decode cX7_barOfLot 5 = .ok (.invokevirtual 111, 3) := by decide +kernel
theorem dX7_barOfLot_8 : decode cX7_barOfLot 8 = .ok (.iload_n 1, 1) := by decide +kernel
theorem dX7_barOfLot_9 : decode cX7_barOfLot 9 = .ok (.iconst 1, 1) := by decide +kernel
theorem dX7_barOfLot_10 : decode cX7_barOfLot 10 = .ok (.aload_n 0, 1) := by decide +kernel
theorem dX7_barOfLot_11 : decode cX7_barOfLot 11 = .ok (.getfield 89, 3) := by decide +kernel
theorem dX7_barOfLot_14 : decode cX7_barOfLot 14 = .ok (.invokestatic 58, 3) := by decide +kernel
theorem dX7_barOfLot_17 : decode cX7_barOfLot 17 = .ok (.ifCond .eq 7, 3) := by decide +kernel
theorem dX7_barOfLot_20 : decode cX7_barOfLot 20 = .ok (.iload_n 2, 1) := by decide +kernel
theorem dX7_barOfLot_21 : decode cX7_barOfLot 21 = .ok (.ifCond .ne 8, 3) := by decide +kernel
theorem dX7_barOfLot_24 : decode cX7_barOfLot 24 = .ok (.bipush (-2), 2) := by decide +kernel
theorem dX7_barOfLot_26 : decode cX7_barOfLot 26 = .ok (.goto 16, 3) := by decide +kernel
theorem dX7_barOfLot_29 : decode cX7_barOfLot 29 = .ok (.aload_n 0, 1) := by decide +kernel
theorem dX7_barOfLot_30 : decode cX7_barOfLot 30 = .ok (.getfield 104, 3) := by decide +kernel
theorem dX7_barOfLot_33 : decode cX7_barOfLot 33 = .ok (.ifCond .eq 8, 3) := by decide +kernel
theorem dX7_barOfLot_36 : decode cX7_barOfLot 36 = .ok (.bipush (-3), 2) := by decide +kernel
theorem dX7_barOfLot_38 : decode cX7_barOfLot 38 = .ok (.goto 4, 3) := by decide +kernel
theorem dX7_barOfLot_41 : decode cX7_barOfLot 41 = .ok (.iconst 0, 1) := by decide +kernel
theorem dX7_barOfLot_42 : decode cX7_barOfLot 42 = .ok (.ireturn, 1) := by decide +kernel
theorem dX7_yes_0 : decode cX7_yes 0 = .ok (.aload_n 0, 1) := by decide +kernel
theorem dX7_yes_1 : decode cX7_yes 1 = .ok (.iload_n 1, 1) := by decide +kernel
theorem dX7_yes_2 : decode cX7_yes 2 = .ok (.iload_n 2, 1) := by decide +kernel
theorem dX7_yes_3 : decode cX7_yes 3 = .ok (.invokestatic 129, 3) := by decide +kernel
theorem dX7_yes_6 : decode cX7_yes 6 = .ok (.invokevirtual 150, 3) := by decide +kernel
theorem dX7_yes_9 : decode cX7_yes 9 = .ok (.istore_n 3, 1) := by decide +kernel
theorem dX7_yes_10 : decode cX7_yes 10 = .ok (.iload_n 3, 1) := by decide +kernel
theorem dX7_yes_11 : decode cX7_yes 11 = .ok (.ifCond .ge 12, 3) := by decide +kernel
theorem dX7_yes_14 : decode cX7_yes 14 = .ok (.ldc2_w 154, 3) := by decide +kernel
theorem dX7_yes_17 : decode cX7_yes 17 = .ok (.iload_n 3, 1) := by decide +kernel
theorem dX7_yes_18 : decode cX7_yes 18 = .ok (.i2l, 1) := by decide +kernel
theorem dX7_yes_19 : decode cX7_yes 19 = .ok (.ladd, 1) := by decide +kernel
theorem dX7_yes_20 : decode cX7_yes 20 = .ok (.goto 21, 3) := by decide +kernel
theorem dX7_yes_23 : decode cX7_yes 23 = .ok (.aload_n 0, 1) := by decide +kernel
theorem dX7_yes_24 : decode cX7_yes 24 = .ok (.iload_n 1, 1) := by decide +kernel
theorem dX7_yes_25 : decode cX7_yes 25 = .ok (.invokevirtual 156, 3) := by decide +kernel
theorem dX7_yes_28 : decode cX7_yes 28 = .ok (.aload_n 0, 1) := by decide +kernel
theorem dX7_yes_29 : decode cX7_yes 29 = .ok (.aload_n 0, 1) := by decide +kernel
theorem dX7_yes_30 : decode cX7_yes 30 = .ok (.getfield 89, 3) := by decide +kernel
theorem dX7_yes_33 : decode cX7_yes 33 = .ok (.iload_n 1, 1) := by decide +kernel
theorem dX7_yes_34 : decode cX7_yes 34 = .ok (.invokevirtual 136, 3) := by decide +kernel
theorem dX7_yes_37 : decode cX7_yes 37 = .ok (.iload_n 2, 1) := by decide +kernel
theorem dX7_yes_38 : decode cX7_yes 38 = .ok (.invokestatic 160, 3) := by decide +kernel
theorem dX7_yes_41 : decode cX7_yes 41 = .ok (.lreturn, 1) := by decide +kernel
theorem dX7_bits_0 : decode cX7_bits 0 = .ok (.iconst 0, 1) := by decide +kernel
theorem dX7_bits_1 : decode cX7_bits 1 = .ok (.istore_n 1, 1) := by decide +kernel
theorem dX7_bits_2 : decode cX7_bits 2 = .ok (.iconst 0, 1) := by decide +kernel
theorem dX7_bits_3 : decode cX7_bits 3 = .ok (.istore_n 2, 1) := by decide +kernel
theorem dX7_bits_4 : decode cX7_bits 4 = .ok (.iload_n 2, 1) := by decide +kernel
theorem dX7_bits_5 : decode cX7_bits 5 = .ok (.bipush 6, 2) := by decide +kernel
theorem dX7_bits_7 : decode cX7_bits 7 = .ok (.if_icmp .ge 17, 3) := by decide +kernel
theorem dX7_bits_10 : decode cX7_bits 10 = .ok (.iload_n 1, 1) := by decide +kernel
theorem dX7_bits_11 : decode cX7_bits 11 = .ok (.iload_n 0, 1) := by decide +kernel
theorem dX7_bits_12 : decode cX7_bits 12 = .ok (.iload_n 2, 1) := by decide +kernel
theorem dX7_bits_13 : decode cX7_bits 13 = .ok (.ishr, 1) := by decide +kernel
theorem dX7_bits_14 : decode cX7_bits 14 = .ok (.iconst 1, 1) := by decide +kernel
theorem dX7_bits_15 : decode cX7_bits 15 = .ok (.iand, 1) := by decide +kernel
theorem dX7_bits_16 : decode cX7_bits 16 = .ok (.iadd, 1) := by decide +kernel
theorem dX7_bits_17 : decode cX7_bits 17 = .ok (.istore_n 1, 1) := by decide +kernel
theorem dX7_bits_18 : decode cX7_bits 18 = .ok (.iinc 2 1, 3) := by decide +kernel
theorem dX7_bits_21 : decode cX7_bits 21 = .ok (.goto (-17), 3) := by decide +kernel
theorem dX7_bits_24 : decode cX7_bits 24 = .ok (.iload_n 1, 1) := by decide +kernel
theorem dX7_bits_25 : decode cX7_bits 25 = .ok (.ireturn, 1) := by decide +kernel
theorem dX7_bySheets_0 : decode cX7_bySheets 0 = .ok (.iconst 0, 1) := by decide +kernel
theorem dX7_bySheets_1 : decode cX7_bySheets 1 = .ok (.istore_n 3, 1) := by decide +kernel
theorem dX7_bySheets_2 : decode cX7_bySheets 2 = .ok (.iconst 0, 1) := by decide +kernel
theorem dX7_bySheets_3 : decode cX7_bySheets 3 = .ok (.istore 4, 2) := by decide +kernel
theorem dX7_bySheets_5 : decode cX7_bySheets 5 = .ok (.iload 4, 2) := by decide +kernel
theorem dX7_bySheets_7 : decode cX7_bySheets 7 = .ok (.bipush 6, 2) := by decide +kernel
theorem dX7_bySheets_9 : decode cX7_bySheets 9 = .ok (.if_icmp .ge 40, 3) := by decide +kernel
theorem dX7_bySheets_12 : decode cX7_bySheets 12 = .ok (.iload_n 3, 1) := by decide +kernel
theorem dX7_bySheets_13 : decode cX7_bySheets 13 = .ok (.aload_n 0, 1) := by decide +kernel
theorem dX7_bySheets_14 : decode cX7_bySheets 14 = .ok (.getfield 16, 3) := by decide +kernel
theorem dX7_bySheets_17 : decode cX7_bySheets 17 = .ok (.iload 4, 2) := by decide +kernel
theorem dX7_bySheets_19 : decode cX7_bySheets 19 = .ok (.iaload, 1) := by decide +kernel
theorem dX7_bySheets_20 : decode cX7_bySheets 20 = .ok (.ifCond .ne 20, 3) := by decide +kernel
theorem dX7_bySheets_23 : decode cX7_bySheets 23 = .ok (.aload_n 0, 1) := by decide +kernel
theorem dX7_bySheets_24 : decode cX7_bySheets 24 = .ok (.getfield 19, 3) := by decide +kernel
theorem dX7_bySheets_27 : decode cX7_bySheets 27 = .ok (.iload 4, 2) := by decide +kernel
theorem dX7_bySheets_29 : decode cX7_bySheets 29 = .ok (.iaload, 1) := by decide +kernel
theorem dX7_bySheets_30 : decode cX7_bySheets 30 = .ok (.ifCond .le 10, 3) := by decide +kernel
theorem dX7_bySheets_33 : decode cX7_bySheets 33 = .ok (.iconst 1, 1) := by decide +kernel
theorem dX7_bySheets_34 : decode cX7_bySheets 34 = .ok (.iload 4, 2) := by decide +kernel
theorem dX7_bySheets_36 : decode cX7_bySheets 36 = .ok (.ishl, 1) := by decide +kernel
theorem dX7_bySheets_37 : decode cX7_bySheets 37 = .ok (.goto 4, 3) := by decide +kernel
theorem dX7_bySheets_40 : decode cX7_bySheets 40 = .ok (.iconst 0, 1) := by decide +kernel
theorem dX7_bySheets_41 : decode cX7_bySheets 41 = .ok (.ior, 1) := by decide +kernel
theorem dX7_bySheets_42 : decode cX7_bySheets 42 = .ok (.istore_n 3, 1) := by decide +kernel
theorem dX7_bySheets_43 : decode cX7_bySheets 43 = .ok (.iinc 4 1, 3) := by decide +kernel
theorem dX7_bySheets_46 : decode cX7_bySheets 46 = .ok (.goto (-41), 3) := by decide +kernel
theorem dX7_bySheets_49 : decode cX7_bySheets 49 = .ok (.iload_n 1, 1) := by decide +kernel
theorem dX7_bySheets_50 : decode cX7_bySheets 50 = .ok (.iconst 1, 1) := by decide +kernel
theorem dX7_bySheets_51 : decode cX7_bySheets 51 = .ok (.iload_n 3, 1) := by decide +kernel
theorem dX7_bySheets_52 : decode cX7_bySheets 52 = .ok (.invokestatic 164, 3) := by decide +kernel
theorem dX7_bySheets_55 : decode cX7_bySheets 55 = .ok (.invokestatic 58, 3) := by decide +kernel
theorem dX7_bySheets_58 : decode cX7_bySheets 58 = .ok (.ifCond .eq 10, 3) := by decide +kernel
theorem dX7_bySheets_61 : decode cX7_bySheets 61 = .ok (.iload_n 2, 1) := by decide +kernel
theorem dX7_bySheets_62 : decode cX7_bySheets 62 = .ok (.invokestatic 129, 3) := by decide +kernel
theorem dX7_bySheets_65 : decode cX7_bySheets 65 = .ok (.ifCond .ne 7, 3) := by decide +kernel
theorem dX7_bySheets_68 : decode cX7_bySheets 68 = .ok (.ldc2_w 132, 3) := by decide +kernel
theorem dX7_bySheets_71 : decode cX7_bySheets 71 = .ok (.lreturn, 1) := by decide +kernel
theorem dX7_bySheets_72 : decode cX7_bySheets 72 = .ok (.aload_n 0, 1) := by decide +kernel
theorem dX7_bySheets_73 : decode cX7_bySheets 73 = .ok (.iload_n 3, 1) := by decide +kernel
theorem dX7_bySheets_74 : decode cX7_bySheets 74 = .ok (.invokevirtual 111, 3) := by decide +kernel
theorem dX7_bySheets_77 : decode cX7_bySheets 77 = .ok (.aload_n 0, 1) := by decide +kernel
theorem dX7_bySheets_78 : decode cX7_bySheets 78 = .ok (.getfield 104, 3) := by decide +kernel
theorem dX7_bySheets_81 : decode cX7_bySheets 81 = .ok (.ifCond .eq 7, 3) := by decide +kernel
theorem dX7_bySheets_84 : decode cX7_bySheets 84 = .ok (.ldc2_w 168, 3) := by decide +kernel
theorem dX7_bySheets_87 : decode cX7_bySheets 87 = .ok (.lreturn, 1) := by decide +kernel
theorem dX7_bySheets_88 : decode cX7_bySheets 88 = .ok (.aload_n 0, 1) := by decide +kernel
theorem dX7_bySheets_89 : decode cX7_bySheets 89 = .ok (.getfield 89, 3) := by decide +kernel
theorem dX7_bySheets_92 : decode cX7_bySheets 92 = .ok (.istore 4, 2) := by decide +kernel
theorem dX7_bySheets_94 : decode cX7_bySheets 94 = .ok (.lconst 0, 1) := by decide +kernel
theorem dX7_bySheets_95 : decode cX7_bySheets 95 = .ok (.lstore 5, 2) := by decide +kernel
theorem dX7_bySheets_97 : decode cX7_bySheets 97 = .ok (.lconst 0, 1) := by decide +kernel
theorem dX7_bySheets_98 : decode cX7_bySheets 98 = .ok (.lstore 7, 2) := by decide +kernel
theorem dX7_bySheets_100 : decode cX7_bySheets 100 = .ok (.iconst 1, 1) := by decide +kernel
theorem dX7_bySheets_101 : decode cX7_bySheets 101 = .ok (.istore 9, 2) := by decide +kernel
theorem dX7_bySheets_103 : decode cX7_bySheets 103 = .ok (.iload 9, 2) := by decide +kernel
theorem dX7_bySheets_105 : decode cX7_bySheets 105 = .ok (.bipush 64, 2) := by decide +kernel
theorem dX7_bySheets_107 : decode cX7_bySheets 107 = .ok (.if_icmp .ge 75, 3) := by decide +kernel
theorem dX7_bySheets_110 : decode cX7_bySheets 110 = .ok (.iload 9, 2) := by decide +kernel
theorem dX7_bySheets_112 : decode cX7_bySheets 112 = .ok (.iload_n 3, 1) := by decide +kernel
theorem dX7_bySheets_113 : decode cX7_bySheets 113 = .ok (.iconst (-1), 1) := by decide +kernel
theorem dX7_bySheets_114 : decode cX7_bySheets 114 = .ok (.ixor, 1) := by decide +kernel
theorem dX7_bySheets_115 : decode cX7_bySheets 115 = .ok (.iand, 1) := by decide +kernel
theorem dX7_bySheets_116 : decode cX7_bySheets 116 = .ok (.ifCond .ne 60, 3) := by decide +kernel
theorem dX7_bySheets_119 : decode cX7_bySheets 119 = .ok (.iload 9, 2) := by decide +kernel
theorem dX7_bySheets_121 : decode cX7_bySheets 121 = .ok (.invokestatic 164, 3) := by decide +kernel
theorem dX7_bySheets_124 : decode cX7_bySheets 124 = .ok (.iload_n 1, 1) := by decide +kernel
theorem dX7_bySheets_125 : decode cX7_bySheets 125 = .ok (.if_icmp .ne 51, 3) := by decide +kernel
theorem dX7_bySheets_128 : decode cX7_bySheets 128 = .ok (.aload_n 0, 1) := by decide +kernel
theorem dX7_bySheets_129 : decode cX7_bySheets 129 = .ok (.iload 9, 2) := by decide +kernel
theorem dX7_bySheets_131 : decode cX7_bySheets 131 = .ok (.invokevirtual 111, 3) := by decide +kernel
theorem dX7_bySheets_134 : decode cX7_bySheets 134 = .ok (.lload 7, 2) := by decide +kernel
theorem dX7_bySheets_136 : decode cX7_bySheets 136 = .ok (.lconst 1, 1) := by decide +kernel
theorem dX7_bySheets_137 : decode cX7_bySheets 137 = .ok (.ladd, 1) := by decide +kernel
theorem dX7_bySheets_138 : decode cX7_bySheets 138 = .ok (.lstore 7, 2) := by decide +kernel
theorem dX7_bySheets_140 : decode cX7_bySheets 140 = .ok (.lload 5, 2) := by decide +kernel
theorem dX7_bySheets_142 : decode cX7_bySheets 142 = .ok (.aload_n 0, 1) := by decide +kernel
theorem dX7_bySheets_143 : decode cX7_bySheets 143 = .ok (.iload 4, 2) := by decide +kernel
theorem dX7_bySheets_145 : decode cX7_bySheets 145 = .ok (.aload_n 0, 1) := by decide +kernel
theorem dX7_bySheets_146 : decode cX7_bySheets 146 = .ok (.getfield 89, 3) := by decide +kernel
theorem dX7_bySheets_149 : decode cX7_bySheets 149 = .ok (.aload_n 0, 1) := by decide +kernel
theorem dX7_bySheets_150 : decode cX7_bySheets 150 = .ok (.getfield 89, 3) := by decide +kernel
theorem dX7_bySheets_153 : decode cX7_bySheets 153 = .ok (.aload_n 0, 1) := by decide +kernel
theorem dX7_bySheets_154 : decode cX7_bySheets 154 = .ok (.getfield 92, 3) := by decide +kernel
theorem dX7_bySheets_157 : decode cX7_bySheets 157 = .ok (.isub, 1) := by decide +kernel
theorem dX7_bySheets_158 : decode cX7_bySheets 158 = .ok (.aload_n 0, 1) := by decide +kernel
theorem dX7_bySheets_159 : decode cX7_bySheets 159 = .ok (.getfield 101, 3) := by decide +kernel
theorem dX7_bySheets_162 : decode cX7_bySheets 162 = .ok (.invokevirtual 144, 3) := by decide +kernel
theorem dX7_bySheets_165 : decode cX7_bySheets 165 = .ok (.ifCond .eq 7, 3) := by decide +kernel
theorem dX7_bySheets_168 : decode cX7_bySheets 168 = .ok (.lconst 1, 1) := by decide +kernel
theorem dX7_bySheets_169 : decode cX7_bySheets 169 = .ok (.goto 4, 3) := by decide +kernel
theorem dX7_bySheets_172 : decode cX7_bySheets 172 = .ok (.lconst 0, 1) := by decide +kernel
theorem dX7_bySheets_173 : decode cX7_bySheets 173 = .ok (.ladd, 1) := by decide +kernel
theorem dX7_bySheets_174 : decode cX7_bySheets 174 = .ok (.lstore 5, 2) := by decide +kernel
theorem dX7_bySheets_176 : decode cX7_bySheets 176 = .ok (.iinc 9 1, 3) := by decide +kernel
theorem dX7_bySheets_179 : decode cX7_bySheets 179 = .ok (.goto (-76), 3) := by decide +kernel
theorem dX7_bySheets_182 : decode cX7_bySheets 182 = .ok (.lload 5, 2) := by decide +kernel
theorem dX7_bySheets_184 : decode cX7_bySheets 184 = .ok (.lload 7, 2) := by decide +kernel
theorem dX7_bySheets_186 : decode cX7_bySheets 186 = .ok (.iload_n 2, 1) := by decide +kernel
theorem dX7_bySheets_187 : decode cX7_bySheets 187 = .ok (.invokestatic 160, 3) := by decide +kernel
theorem dX7_bySheets_190 : decode cX7_bySheets 190 = .ok (.lreturn, 1) := by decide +kernel
theorem dX7_wrongNow_0 : decode cX7_wrongNow 0 = .ok (.aload_n 0, 1) := by decide +kernel
theorem dX7_wrongNow_1 : decode cX7_wrongNow 1 = .ok (.iload_n 1, 1) := by decide +kernel
theorem dX7_wrongNow_2 : decode cX7_wrongNow 2 = .ok (.invokevirtual 156, 3) := by decide +kernel
theorem dX7_wrongNow_5 : decode cX7_wrongNow 5 = .ok (.lstore_n 2, 1) := by decide +kernel
theorem dX7_wrongNow_6 : decode cX7_wrongNow 6 = .ok (.aload_n 0, 1) := by decide +kernel
theorem dX7_wrongNow_7 : decode cX7_wrongNow 7 = .ok (.invokevirtual 115, 3) := by decide +kernel
theorem dX7_wrongNow_10 : decode cX7_wrongNow 10 = .ok (.aload_n 0, 1) := by decide +kernel
theorem dX7_wrongNow_11 : decode cX7_wrongNow 11 = .ok (.getfield 25, 3) := by decide +kernel
theorem dX7_wrongNow_14 : decode cX7_wrongNow 14 = .ok (.if_icmp .lt 17, 3) := by decide +kernel
theorem dX7_wrongNow_17 : decode cX7_wrongNow 17 = .ok (.aload_n 0, 1) := by decide +kernel
theorem dX7_wrongNow_18 : decode cX7_wrongNow 18 = .ok (.aload_n 0, 1) := by decide +kernel
theorem dX7_wrongNow_19 : decode cX7_wrongNow 19 = .ok (.getfield 89, 3) := by decide +kernel
theorem dX7_wrongNow_22 : decode cX7_wrongNow 22 = .ok (.iload_n 1, 1) := by decide +kernel
theorem dX7_wrongNow_23 : decode cX7_wrongNow 23 = .ok (.invokevirtual 136, 3) := by decide +kernel
theorem dX7_wrongNow_26 : decode cX7_wrongNow 26 = .ok (.lload_n 2, 1) := by decide +kernel
theorem dX7_wrongNow_27 : decode cX7_wrongNow 27 = .ok (.lsub, 1) := by decide +kernel
theorem dX7_wrongNow_28 : decode cX7_wrongNow 28 = .ok (.goto 4, 3) := by decide +kernel
theorem dX7_wrongNow_31 : decode cX7_wrongNow 31 = .ok (.lload_n 2, 1) := by decide +kernel
theorem dX7_wrongNow_32 : decode cX7_wrongNow 32 = .ok (.lreturn, 1) := by decide +kernel
theorem dX7_wrong_0 : decode cX7_wrong 0 = .ok (.aload_n 0, 1) := by decide +kernel
theorem dX7_wrong_1 : decode cX7_wrong 1 = .ok (.iload_n 1, 1) := by decide +kernel
theorem dX7_wrong_2 : decode cX7_wrong 2 = .ok (.iload_n 2, 1) := by decide +kernel
theorem dX7_wrong_3 : decode cX7_wrong 3 = .ok (.invokestatic 129, 3) := by decide +kernel
theorem dX7_wrong_6 : decode cX7_wrong 6 = .ok (.invokevirtual 150, 3) := by decide +kernel
theorem dX7_wrong_9 : decode cX7_wrong 9 = .ok (.istore_n 3, 1) := by decide +kernel
theorem dX7_wrong_10 : decode cX7_wrong 10 = .ok (.iload_n 3, 1) := by decide +kernel
theorem dX7_wrong_11 : decode cX7_wrong 11 = .ok (.ifCond .ge 12, 3) := by decide +kernel
theorem dX7_wrong_14 : decode cX7_wrong 14 = .ok (.ldc2_w 154, 3) := by decide +kernel
theorem dX7_wrong_17 : decode cX7_wrong 17 = .ok (.iload_n 3, 1) := by decide +kernel
theorem dX7_wrong_18 : decode cX7_wrong 18 = .ok (.i2l, 1) := by decide +kernel
theorem dX7_wrong_19 : decode cX7_wrong 19 = .ok (.ladd, 1) := by decide +kernel
theorem dX7_wrong_20 : decode cX7_wrong 20 = .ok (.goto 21, 3) := by decide +kernel
theorem dX7_wrong_23 : decode cX7_wrong 23 = .ok (.aload_n 0, 1) := by decide +kernel
theorem dX7_wrong_24 : decode cX7_wrong 24 = .ok (.iload_n 1, 1) := by decide +kernel
theorem dX7_wrong_25 : decode cX7_wrong 25 = .ok (.invokevirtual 170, 3) := by decide +kernel
theorem dX7_wrong_28 : decode cX7_wrong 28 = .ok (.aload_n 0, 1) := by decide +kernel
theorem dX7_wrong_29 : decode cX7_wrong 29 = .ok (.aload_n 0, 1) := by decide +kernel
theorem dX7_wrong_30 : decode cX7_wrong 30 = .ok (.getfield 89, 3) := by decide +kernel
theorem dX7_wrong_33 : decode cX7_wrong 33 = .ok (.iload_n 1, 1) := by decide +kernel
theorem dX7_wrong_34 : decode cX7_wrong 34 = .ok (.invokevirtual 136, 3) := by decide +kernel
theorem dX7_wrong_37 : decode cX7_wrong 37 = .ok (.iload_n 2, 1) := by decide +kernel
theorem dX7_wrong_38 : decode cX7_wrong 38 = .ok (.invokestatic 160, 3) := by decide +kernel
theorem dX7_wrong_41 : decode cX7_wrong 41 = .ok (.lreturn, 1) := by decide +kernel
theorem dX7_enough_0 : decode cX7_enough 0 = .ok (.iload_n 1, 1) := by decide +kernel
theorem dX7_enough_1 : decode cX7_enough 1 = .ok (.iconst 0, 1) := by decide +kernel
theorem dX7_enough_2 : decode cX7_enough 2 = .ok (.sipush 1000, 3) := by decide +kernel
theorem dX7_enough_5 : decode cX7_enough 5 = .ok (.invokestatic 58, 3) := by decide +kernel
theorem dX7_enough_8 : decode cX7_enough 8 = .ok (.ifCond .ne 6, 3) := by decide +kernel
theorem dX7_enough_11 : decode cX7_enough 11 = .ok (.bipush (-2), 2) := by decide +kernel
theorem dX7_enough_13 : decode cX7_enough 13 = .ok (.ireturn, 1) := by decide +kernel
theorem dX7_enough_14 : decode cX7_enough 14 = .ok (.aload_n 0, 1) := by decide +kernel
theorem dX7_enough_15 : decode cX7_enough 15 = .ok (.aload_n 0, 1) := by decide +kernel
theorem dX7_enough_16 : decode cX7_enough 16 = .ok (.invokevirtual 108, 3) := by decide +kernel
theorem dX7_enough_19 : decode cX7_enough 19 = .ok (.invokevirtual 111, 3) := by decide +kernel
theorem dX7_enough_22 : decode cX7_enough 22 = .ok (.aload_n 0, 1) := by decide +kernel
theorem dX7_enough_23 : decode cX7_enough 23 = .ok (.getfield 104, 3) := by decide +kernel
theorem dX7_enough_26 : decode cX7_enough 26 = .ok (.ifCond .ne 10, 3) := by decide +kernel
theorem dX7_enough_29 : decode cX7_enough 29 = .ok (.aload_n 0, 1) := by decide +kernel
theorem dX7_enough_30 : decode cX7_enough 30 = .ok (.getfield 89, 3) := by decide +kernel
theorem dX7_enough_33 : decode cX7_enough 33 = .ok (.ifCond .ne 6, 3) := by decide +kernel
theorem dX7_enough_36 : decode cX7_enough 36 = .ok (.bipush (-3), 2) := by decide +kernel
theorem dX7_enough_38 : decode cX7_enough 38 = .ok (.ireturn, 1) := by decide +kernel
theorem dX7_enough_39 : decode cX7_enough 39 = .ok (.iconst 1, 1) := by decide +kernel
theorem dX7_enough_40 : decode cX7_enough 40 = .ok (.istore_n 2, 1) := by decide +kernel
theorem dX7_enough_41 : decode cX7_enough 41 = .ok (.iload_n 2, 1) := by decide +kernel
theorem dX7_enough_42 : decode cX7_enough 42 = .ok (.aload_n 0, 1) := by decide +kernel
theorem dX7_enough_43 : decode cX7_enough 43 = .ok (.getfield 89, 3) := by decide +kernel
theorem dX7_enough_46 : decode cX7_enough 46 = .ok (.if_icmp .gt 51, 3) := by decide +kernel
theorem dX7_enough_49 : decode cX7_enough 49 = .ok (.aload_n 0, 1) := by decide +kernel
theorem dX7_enough_50 : decode cX7_enough 50 = .ok (.aload_n 0, 1) := by decide +kernel
theorem dX7_enough_51 : decode cX7_enough 51 = .ok (.getfield 89, 3) := by decide +kernel
theorem dX7_enough_54 : decode cX7_enough 54 = .ok (.iload_n 2, 1) := by decide +kernel
theorem dX7_enough_55 : decode cX7_enough 55 = .ok (.invokevirtual 136, 3) := by decide +kernel
theorem dX7_enough_58 : decode cX7_enough 58 = .ok (.lstore_n 3, 1) := by decide +kernel
theorem dX7_enough_59 : decode cX7_enough 59 = .ok (.aload_n 0, 1) := by decide +kernel
theorem dX7_enough_60 : decode cX7_enough 60 = .ok (.iload_n 2, 1) := by decide +kernel
theorem dX7_enough_61 : decode cX7_enough 61 = .ok (.invokevirtual 170, 3) := by decide +kernel
theorem dX7_enough_64 : decode cX7_enough 64 = .ok (.lload_n 3, 1) := by decide +kernel
theorem dX7_enough_65 : decode cX7_enough 65 = .ok (.ldc2_w 173, 3) := by decide +kernel
theorem dX7_enough_68 : decode cX7_enough 68 = .ok (.ldiv, 1) := by decide +kernel
theorem dX7_enough_69 : decode cX7_enough 69 = .ok (.iload_n 1, 1) := by decide +kernel
theorem dX7_enough_70 : decode cX7_enough 70 = .ok (.i2l, 1) := by decide +kernel
theorem dX7_enough_71 : decode cX7_enough 71 = .ok (.lmul, 1) := by decide +kernel
theorem dX7_enough_72 : decode cX7_enough 72 = .ok (.lload_n 3, 1) := by decide +kernel
theorem dX7_enough_73 : decode cX7_enough 73 = .ok (.ldc2_w 173, 3) := by decide +kernel
theorem dX7_enough_76 : decode cX7_enough 76 = .ok (.lrem, 1) := by decide +kernel
theorem dX7_enough_77 : decode cX7_enough 77 = .ok (.iload_n 1, 1) := by decide +kernel
theorem dX7_enough_78 : decode cX7_enough 78 = .ok (.i2l, 1) := by decide +kernel
theorem dX7_enough_79 : decode cX7_enough 79 = .ok (.lmul, 1) := by decide +kernel
theorem dX7_enough_80 : decode cX7_enough 80 = .ok (.ldc2_w 173, 3) := by decide +kernel
theorem dX7_enough_83 : decode cX7_enough 83 = .ok (.ldiv, 1) := by decide +kernel
theorem dX7_enough_84 : decode cX7_enough 84 = .ok (.ladd, 1) := by decide +kernel
theorem dX7_enough_85 : decode cX7_enough 85 = .ok (.lcmp, 1) := by decide +kernel
theorem dX7_enough_86 : decode cX7_enough 86 = .ok (.ifCond .gt 5, 3) := by decide +kernel
theorem dX7_enough_89 : decode cX7_enough 89 = .ok (.iload_n 2, 1) := by decide +kernel
theorem dX7_enough_90 : decode cX7_enough 90 = .ok (.ireturn, 1) := by decide +kernel
theorem dX7_enough_91 : decode cX7_enough 91 = .ok (.iinc 2 1, 3) := by decide +kernel
theorem dX7_enough_94 : decode cX7_enough 94 = .ok (.goto (-53), 3) := by decide +kernel
theorem dX7_enough_97 : decode cX7_enough 97 = .ok (.bipush (-6), 2) := by decide +kernel
theorem dX7_enough_99 : decode cX7_enough 99 = .ok (.ireturn, 1) := by decide +kernel
theorem dX7_worth_0 : decode cX7_worth 0 = .ok (.aload_n 0, 1) := by decide +kernel
theorem dX7_worth_1 : decode cX7_worth 1 = .ok (.aload_n 0, 1) := by decide +kernel
theorem dX7_worth_2 : decode cX7_worth 2 = .ok (.invokevirtual 108, 3) := by decide +kernel
theorem dX7_worth_5 : decode cX7_worth 5 = .ok (.invokevirtual 111, 3) := by decide +kernel
theorem dX7_worth_8 : decode cX7_worth 8 = .ok (.iload_n 1, 1) := by decide +kernel
theorem dX7_worth_9 : decode cX7_worth 9 = .ok (.iconst 1, 1) := by decide +kernel
theorem dX7_worth_10 : decode cX7_worth 10 = .ok (.aload_n 0, 1) := by decide +kernel
theorem dX7_worth_11 : decode cX7_worth 11 = .ok (.getfield 89, 3) := by decide +kernel
theorem dX7_worth_14 : decode cX7_worth 14 = .ok (.invokestatic 58, 3) := by decide +kernel
theorem dX7_worth_17 : decode cX7_worth 17 = .ok (.ifCond .eq 31, 3) := by decide +kernel
theorem dX7_worth_20 : decode cX7_worth 20 = .ok (.iload_n 2, 1) := by decide +kernel
theorem dX7_worth_21 : decode cX7_worth 21 = .ok (.iconst 0, 1) := by decide +kernel
theorem dX7_worth_22 : decode cX7_worth 22 = .ok (.bipush 60, 2) := by decide +kernel
theorem dX7_worth_24 : decode cX7_worth 24 = .ok (.invokestatic 58, 3) := by decide +kernel
theorem dX7_worth_27 : decode cX7_worth 27 = .ok (.ifCond .eq 21, 3) := by decide +kernel
theorem dX7_worth_30 : decode cX7_worth 30 = .ok (.iload_n 3, 1) := by decide +kernel
theorem dX7_worth_31 : decode cX7_worth 31 = .ok (.iconst 0, 1) := by decide +kernel
theorem dX7_worth_32 : decode cX7_worth 32 = .ok (.bipush 60, 2) := by decide +kernel
theorem dX7_worth_34 : decode cX7_worth 34 = .ok (.invokestatic 58, 3) := by decide +kernel
theorem dX7_worth_37 : decode cX7_worth 37 = .ok (.ifCond .eq 11, 3) := by decide +kernel
theorem dX7_worth_40 : decode cX7_worth 40 = .ok (.iload 4, 2) := by decide +kernel
theorem dX7_worth_42 : decode cX7_worth 42 = .ok (.invokestatic 129, 3) := by decide +kernel
theorem dX7_worth_45 : decode cX7_worth 45 = .ok (.ifCond .ne 7, 3) := by decide +kernel
theorem dX7_worth_48 : decode cX7_worth 48 = .ok (.ldc2_w 132, 3) := by decide +kernel
theorem dX7_worth_51 : decode cX7_worth 51 = .ok (.lreturn, 1) := by decide +kernel
theorem dX7_worth_52 : decode cX7_worth 52 = .ok (.aload_n 0, 1) := by decide +kernel
theorem dX7_worth_53 : decode cX7_worth 53 = .ok (.aload_n 0, 1) := by decide +kernel
theorem dX7_worth_54 : decode cX7_worth 54 = .ok (.getfield 89, 3) := by decide +kernel
theorem dX7_worth_57 : decode cX7_worth 57 = .ok (.iload_n 1, 1) := by decide +kernel
theorem dX7_worth_58 : decode cX7_worth 58 = .ok (.iload_n 2, 1) := by decide +kernel
theorem dX7_worth_59 : decode cX7_worth 59 = .ok (.iload_n 3, 1) := by decide +kernel
theorem dX7_worth_60 : decode cX7_worth 60 = .ok (.invokevirtual 125, 3) := by decide +kernel
theorem dX7_worth_63 : decode cX7_worth 63 = .ok (.istore 5, 2) := by decide +kernel
theorem dX7_worth_65 : decode cX7_worth 65 = .ok (.aload_n 0, 1) := by decide +kernel
theorem dX7_worth_66 : decode cX7_worth 66 = .ok (.getfield 118, 3) := by decide +kernel
theorem dX7_worth_69 : decode cX7_worth 69 = .ok (.lstore 6, 2) := by decide +kernel
theorem dX7_worth_71 : decode cX7_worth 71 = .ok (.aload_n 0, 1) := by decide +kernel
theorem dX7_worth_72 : decode cX7_worth 72 = .ok (.getfield 122, 3) := by decide +kernel
theorem dX7_worth_75 : decode cX7_worth 75 = .ok (.lstore 8, 2) := by decide +kernel
theorem dX7_worth_77 : decode cX7_worth 77 = .ok (.iload 5, 2) := by decide +kernel
theorem dX7_worth_79 : decode cX7_worth 79 = .ok (.ifCond .eq 19, 3) := by decide +kernel
theorem dX7_worth_82 : decode cX7_worth 82 = .ok (.aload_n 0, 1) := by decide +kernel
theorem dX7_worth_83 : decode cX7_worth 83 = .ok (.aload_n 0, 1) := by decide +kernel
theorem dX7_worth_84 : decode cX7_worth 84 = .ok (.getfield 89, 3) := by decide +kernel
theorem dX7_worth_87 : decode cX7_worth 87 = .ok (.iload_n 1, 1) := by decide +kernel
theorem dX7_worth_88 : decode cX7_worth 88 = .ok (.iload_n 2, 1) := by decide +kernel
theorem dX7_worth_89 : decode cX7_worth 89 = .ok (.iload_n 3, 1) := by decide +kernel
theorem dX7_worth_90 : decode cX7_worth 90 = .ok (.iconst 1, 1) := by decide +kernel
theorem dX7_worth_91 : decode cX7_worth 91 = .ok (.iadd, 1) := by decide +kernel
theorem dX7_worth_92 : decode cX7_worth 92 = .ok (.invokevirtual 125, 3) := by decide +kernel
theorem dX7_worth_95 : decode cX7_worth 95 = .ok (.ifCond .ne 7, 3) := by decide +kernel
theorem dX7_worth_98 : decode cX7_worth 98 = .ok (.ldc2_w 134, 3) := by decide +kernel
theorem dX7_worth_101 : decode cX7_worth 101 = .ok (.lreturn, 1) := by decide +kernel
theorem dX7_worth_102 : decode cX7_worth 102 = .ok (.lload 6, 2) := by decide +kernel
theorem dX7_worth_104 : decode cX7_worth 104 = .ok (.aload_n 0, 1) := by decide +kernel
theorem dX7_worth_105 : decode cX7_worth 105 = .ok (.getfield 122, 3) := by decide +kernel
theorem dX7_worth_108 : decode cX7_worth 108 = .ok (.lmul, 1) := by decide +kernel
theorem dX7_worth_109 : decode cX7_worth 109 = .ok (.aload_n 0, 1) := by decide +kernel
theorem dX7_worth_110 : decode cX7_worth 110 = .ok (.getfield 118, 3) := by decide +kernel
theorem dX7_worth_113 : decode cX7_worth 113 = .ok (.lload 8, 2) := by decide +kernel
theorem dX7_worth_115 : decode cX7_worth 115 = .ok (.lmul, 1) := by decide +kernel
theorem dX7_worth_116 : decode cX7_worth 116 = .ok (.lsub, 1) := by decide +kernel
theorem dX7_worth_117 : decode cX7_worth 117 = .ok (.lload 8, 2) := by decide +kernel
theorem dX7_worth_119 : decode cX7_worth 119 = .ok (.aload_n 0, 1) := by decide +kernel
theorem dX7_worth_120 : decode cX7_worth 120 = .ok (.getfield 122, 3) := by decide +kernel
theorem dX7_worth_123 : decode cX7_worth 123 = .ok (.lmul, 1) := by decide +kernel
theorem dX7_worth_124 : decode cX7_worth 124 = .ok (.iload 4, 2) := by decide +kernel
theorem dX7_worth_126 : decode cX7_worth 126 = .ok (.invokestatic 160, 3) := by decide +kernel
theorem dX7_worth_129 : decode cX7_worth 129 = .ok (.lreturn, 1) := by decide +kernel
theorem dX7_isGatherer_0 : decode cX7_isGatherer 0 = .ok (.iload_n 0, 1) := by decide +kernel
theorem dX7_isGatherer_1 : decode cX7_isGatherer 1 = .ok (.iconst 0, 1) := by decide +kernel
theorem dX7_isGatherer_2 : decode cX7_isGatherer 2 = .ok (.iconst 4, 1) := by decide +kernel
theorem dX7_isGatherer_3 : decode cX7_isGatherer 3 = .ok (.invokestatic 58, 3) := by decide +kernel
theorem dX7_isGatherer_6 : decode cX7_isGatherer 6 = .ok (.ireturn, 1) := by decide +kernel
theorem dX7_layHis_0 : decode cX7_layHis 0 = .ok (.aload_n 0, 1) := by decide +kernel
theorem dX7_layHis_1 : decode cX7_layHis 1 = .ok (.iconst 0, 1) := by decide +kernel
theorem dX7_layHis_2 : decode cX7_layHis 2 = .ok (.putfield 175, 3) := by decide +kernel
theorem dX7_layHis_5 : decode cX7_layHis 5 = .ok (.aload_n 0, 1) := by decide +kernel
theorem dX7_layHis_6 : decode cX7_layHis 6 = .ok (.iconst 0, 1) := by decide +kernel
theorem dX7_layHis_7 : decode cX7_layHis 7 = .ok (.putfield 178, 3) := by decide +kernel
theorem dX7_layHis_10 : decode cX7_layHis 10 = .ok (.iconst 0, 1) := by decide +kernel
theorem dX7_layHis_11 : decode cX7_layHis 11 = .ok (.istore_n 2, 1) := by decide +kernel
theorem dX7_layHis_12 : decode cX7_layHis 12 = .ok (.iload_n 2, 1) := by decide +kernel
theorem dX7_layHis_13 : decode cX7_layHis 13 = .ok (.bipush 6, 2) := by decide +kernel
theorem dX7_layHis_15 : decode cX7_layHis 15 = .ok (.if_icmp .ge 87, 3) := by decide +kernel
theorem dX7_layHis_18 : decode cX7_layHis 18 = .ok (.iconst 0, 1) := by decide +kernel
theorem dX7_layHis_19 : decode cX7_layHis 19 = .ok (.istore_n 3, 1) := by decide +kernel
theorem dX7_layHis_20 : decode cX7_layHis 20 = .ok (.iload_n 3, 1) := by decide +kernel
theorem dX7_layHis_21 : decode cX7_layHis 21 = .ok (.aload_n 0, 1) := by decide +kernel
theorem dX7_layHis_22 : decode cX7_layHis 22 = .ok (.getfield 19, 3) := by decide +kernel
theorem dX7_layHis_25 : decode cX7_layHis 25 = .ok (.iload_n 2, 1) := by decide +kernel
theorem dX7_layHis_26 : decode cX7_layHis 26 = .ok (.iaload, 1) := by decide +kernel
theorem dX7_layHis_27 : decode cX7_layHis 27 = .ok (.if_icmp .ge 69, 3) := by decide +kernel
theorem dX7_layHis_30 : decode cX7_layHis 30 = .ok (.aload_n 0, 1) := by decide +kernel
theorem dX7_layHis_31 : decode cX7_layHis 31 = .ok (.getfield 16, 3) := by decide +kernel
theorem dX7_layHis_34 : decode cX7_layHis 34 = .ok (.iload_n 2, 1) := by decide +kernel
theorem dX7_layHis_35 : decode cX7_layHis 35 = .ok (.iaload, 1) := by decide +kernel
theorem dX7_layHis_36 : decode cX7_layHis 36 = .ok (.ifCond .ne 60, 3) := by decide +kernel
theorem dX7_layHis_39 : decode cX7_layHis 39 = .ok (.aload_n 0, 1) := by decide +kernel
theorem dX7_layHis_40 : decode cX7_layHis 40 = .ok (.getfield 13, 3) := by decide +kernel
theorem dX7_layHis_43 : decode cX7_layHis 43 = .ok (.iload_n 2, 1) := by decide +kernel
theorem dX7_layHis_44 : decode cX7_layHis 44 = .ok (.iaload, 1) := by decide +kernel
theorem dX7_layHis_45 : decode cX7_layHis 45 = .ok (.iload_n 1, 1) := by decide +kernel
theorem dX7_layHis_46 : decode cX7_layHis 46 = .ok (.if_icmp .ne 50, 3) := by decide +kernel
theorem dX7_layHis_49 : decode cX7_layHis 49 = .ok (.aload_n 0, 1) := by decide +kernel
theorem dX7_layHis_50 : decode cX7_layHis 50 = .ok (.dup, 1) := by decide +kernel
theorem dX7_layHis_51 : decode cX7_layHis 51 = .ok (.getfield 175, 3) := by decide +kernel
theorem dX7_layHis_54 : decode cX7_layHis 54 = .ok (.iconst 1, 1) := by decide +kernel
theorem dX7_layHis_55 : decode cX7_layHis 55 = .ok (.iadd, 1) := by decide +kernel
theorem dX7_layHis_56 : decode cX7_layHis 56 = .ok (.putfield 175, 3) := by decide +kernel
theorem dX7_layHis_59 : decode cX7_layHis 59 = .ok (.aload_n 0, 1) := by decide +kernel
theorem dX7_layHis_60 : decode cX7_layHis 60 = .ok (.dup, 1) := by decide +kernel
theorem dX7_layHis_61 : decode cX7_layHis 61 = .ok (.getfield 178, 3) := by decide +kernel
theorem dX7_layHis_64 : decode cX7_layHis 64 = .ok (.aload_n 0, 1) := by decide +kernel
theorem dX7_layHis_65 : decode cX7_layHis 65 = .ok (.getfield 22, 3) := by decide +kernel
theorem dX7_layHis_68 : decode cX7_layHis 68 = .ok (.bipush 10, 2) := by decide +kernel
theorem dX7_layHis_70 : decode cX7_layHis 70 = .ok (.iload_n 2, 1) := by decide +kernel
theorem dX7_layHis_71 : decode cX7_layHis 71 = .ok (.imul, 1) := by decide +kernel
theorem dX7_layHis_72 : decode cX7_layHis 72 = .ok (.iload_n 3, 1) := by decide +kernel
theorem dX7_layHis_73 : decode cX7_layHis 73 = .ok (.iadd, 1) := by decide +kernel
theorem dX7_layHis_74 : decode cX7_layHis 74 = .ok (.iaload, 1) := by decide +kernel
theorem dX7_layHis_75 : decode cX7_layHis 75 = .ok (.invokestatic 69, 3) := by decide +kernel
theorem dX7_layHis_78 : decode cX7_layHis 78 = .ok (.ifCond .eq 7, 3) := by decide +kernel
theorem dX7_layHis_81 : decode cX7_layHis 81 = .ok (.iconst 1, 1) := by decide +kernel
theorem dX7_layHis_82 : decode cX7_layHis 82 = .ok (.goto 4, 3) := by decide +kernel
theorem dX7_layHis_85 : decode cX7_layHis 85 = .ok (.iconst 0, 1) := by decide +kernel
theorem dX7_layHis_86 : decode cX7_layHis 86 = .ok (.iadd, 1) := by decide +kernel
theorem dX7_layHis_87 : decode cX7_layHis 87 = .ok (.putfield 178, 3) := by decide +kernel
theorem dX7_layHis_90 : decode cX7_layHis 90 = .ok (.iinc 3 1, 3) := by decide +kernel
theorem dX7_layHis_93 : decode cX7_layHis 93 = .ok (.goto (-73), 3) := by decide +kernel
theorem dX7_layHis_96 : decode cX7_layHis 96 = .ok (.iinc 2 1, 3) := by decide +kernel
theorem dX7_layHis_99 : decode cX7_layHis 99 = .ok (.goto (-87), 3) := by decide +kernel
theorem dX7_layHis_102 : decode cX7_layHis 102 = .ok (.return_, 1) := by decide +kernel
theorem dX7_gatherer_0 : decode cX7_gatherer 0 = .ok (.iload_n 1, 1) := by decide +kernel
theorem dX7_gatherer_1 : decode cX7_gatherer 1 = .ok (.invokestatic 181, 3) := by decide +kernel
theorem dX7_gatherer_4 : decode cX7_gatherer 4 = .ok (.ifCond .ne 5, 3) := by decide +kernel
theorem dX7_gatherer_7 : decode cX7_gatherer 7 = .ok (.iconst (-1), 1) := by decide +kernel
theorem dX7_gatherer_8 : decode cX7_gatherer 8 = .ok (.ireturn, 1) := by decide +kernel
theorem dX7_gatherer_9 : decode cX7_gatherer 9 = .ok (.iload_n 2, 1) := by decide +kernel
theorem dX7_gatherer_10 : decode cX7_gatherer 10 = .ok (.iconst 0, 1) := by decide +kernel
theorem dX7_gatherer_11 : decode cX7_gatherer 11 = .ok (.iconst 1, 1) := by decide +kernel
theorem dX7_gatherer_12 : decode cX7_gatherer 12 = .ok (.invokestatic 58, 3) := by decide +kernel
theorem dX7_gatherer_15 : decode cX7_gatherer 15 = .ok (.ifCond .ne 6, 3) := by decide +kernel
theorem dX7_gatherer_18 : decode cX7_gatherer 18 = .ok (.bipush (-2), 2) := by decide +kernel
theorem dX7_gatherer_20 : decode cX7_gatherer 20 = .ok (.ireturn, 1) := by decide +kernel
theorem dX7_gatherer_21 : decode cX7_gatherer 21 = .ok (.aload_n 0, 1) := by decide +kernel
theorem dX7_gatherer_22 : decode cX7_gatherer 22 = .ok (.iload_n 1, 1) := by decide +kernel
theorem dX7_gatherer_23 : decode cX7_gatherer 23 = .ok (.invokevirtual 184, 3) := by decide +kernel
theorem dX7_gatherer_26 : decode cX7_gatherer 26 = .ok (.iload_n 2, 1) := by decide +kernel
theorem dX7_gatherer_27 : decode cX7_gatherer 27 = .ok (.ifCond .ne 10, 3) := by decide +kernel
theorem dX7_gatherer_30 : decode cX7_gatherer 30 = .ok (.aload_n 0, 1) := by decide +kernel
theorem dX7_gatherer_31 : decode cX7_gatherer 31 = .ok (.getfield 175, 3) := by decide +kernel
theorem dX7_gatherer_34 : decode cX7_gatherer 34 = .ok (.goto 7, 3) := by decide +kernel
theorem dX7_gatherer_37 : decode cX7_gatherer 37 = .ok (.aload_n 0, 1) := by decide +kernel
theorem dX7_gatherer_38 : decode cX7_gatherer 38 = .ok (.getfield 178, 3) := by decide +kernel
theorem dX7_gatherer_41 : decode cX7_gatherer 41 = .ok (.ireturn, 1) := by decide +kernel
theorem dX7_laySeems_0 : decode cX7_laySeems 0 = .ok (.aload_n 0, 1) := by decide +kernel
theorem dX7_laySeems_1 : decode cX7_laySeems 1 = .ok (.aload_n 0, 1) := by decide +kernel
theorem dX7_laySeems_2 : decode cX7_laySeems 2 = .ok (.invokevirtual 108, 3) := by decide +kernel
theorem dX7_laySeems_5 : decode cX7_laySeems 5 = .ok (.invokevirtual 111, 3) := by decide +kernel
theorem dX7_laySeems_8 : decode cX7_laySeems 8 = .ok (.aload_n 0, 1) := by decide +kernel
theorem dX7_laySeems_9 : decode cX7_laySeems 9 = .ok (.iload_n 1, 1) := by decide +kernel
theorem dX7_laySeems_10 : decode cX7_laySeems 10 = .ok (.invokevirtual 184, 3) := by decide +kernel
theorem dX7_laySeems_13 : decode cX7_laySeems 13 = .ok (.lconst 0, 1) := by decide +kernel
theorem dX7_laySeems_14 : decode cX7_laySeems 14 = .ok (.lstore_n 2, 1) := by decide +kernel
theorem dX7_laySeems_15 : decode cX7_laySeems 15 = .ok (.aload_n 0, 1) := by decide +kernel
theorem dX7_laySeems_16 : decode cX7_laySeems 16 = .ok (.getfield 178, 3) := by decide +kernel
theorem dX7_laySeems_19 : decode cX7_laySeems 19 = .ok (.istore 4, 2) := by decide +kernel
theorem dX7_laySeems_21 : decode cX7_laySeems 21 = .ok (.iload 4, 2) := by decide +kernel
theorem dX7_laySeems_23 : decode cX7_laySeems 23 = .ok (.aload_n 0, 1) := by decide +kernel
theorem dX7_laySeems_24 : decode cX7_laySeems 24 = .ok (.getfield 175, 3) := by decide +kernel
theorem dX7_laySeems_27 : decode cX7_laySeems 27 = .ok (.if_icmp .gt 43, 3) := by decide +kernel
theorem dX7_laySeems_30 : decode cX7_laySeems 30 = .ok (.lload_n 2, 1) := by decide +kernel
theorem dX7_laySeems_31 : decode cX7_laySeems 31 = .ok (.aload_n 0, 1) := by decide +kernel
theorem dX7_laySeems_32 : decode cX7_laySeems 32 = .ok (.aload_n 0, 1) := by decide +kernel
theorem dX7_laySeems_33 : decode cX7_laySeems 33 = .ok (.getfield 92, 3) := by decide +kernel
theorem dX7_laySeems_36 : decode cX7_laySeems 36 = .ok (.iload 4, 2) := by decide +kernel
theorem dX7_laySeems_38 : decode cX7_laySeems 38 = .ok (.invokevirtual 136, 3) := by decide +kernel
theorem dX7_laySeems_41 : decode cX7_laySeems 41 = .ok (.aload_n 0, 1) := by decide +kernel
theorem dX7_laySeems_42 : decode cX7_laySeems 42 = .ok (.aload_n 0, 1) := by decide +kernel
theorem dX7_laySeems_43 : decode cX7_laySeems 43 = .ok (.getfield 89, 3) := by decide +kernel
theorem dX7_laySeems_46 : decode cX7_laySeems 46 = .ok (.aload_n 0, 1) := by decide +kernel
theorem dX7_laySeems_47 : decode cX7_laySeems 47 = .ok (.getfield 92, 3) := by decide +kernel
theorem dX7_laySeems_50 : decode cX7_laySeems 50 = .ok (.isub, 1) := by decide +kernel
theorem dX7_laySeems_51 : decode cX7_laySeems 51 = .ok (.aload_n 0, 1) := by decide +kernel
theorem dX7_laySeems_52 : decode cX7_laySeems 52 = .ok (.getfield 175, 3) := by decide +kernel
theorem dX7_laySeems_55 : decode cX7_laySeems 55 = .ok (.iload 4, 2) := by decide +kernel
theorem dX7_laySeems_57 : decode cX7_laySeems 57 = .ok (.isub, 1) := by decide +kernel
theorem dX7_laySeems_58 : decode cX7_laySeems 58 = .ok (.invokevirtual 136, 3) := by decide +kernel
theorem dX7_laySeems_61 : decode cX7_laySeems 61 = .ok (.lmul, 1) := by decide +kernel
theorem dX7_laySeems_62 : decode cX7_laySeems 62 = .ok (.ladd, 1) := by decide +kernel
theorem dX7_laySeems_63 : decode cX7_laySeems 63 = .ok (.lstore_n 2, 1) := by decide +kernel
theorem dX7_laySeems_64 : decode cX7_laySeems 64 = .ok (.iinc 4 1, 3) := by decide +kernel
theorem dX7_laySeems_67 : decode cX7_laySeems 67 = .ok (.goto (-46), 3) := by decide +kernel
theorem dX7_laySeems_70 : decode cX7_laySeems 70 = .ok (.lload_n 2, 1) := by decide +kernel
theorem dX7_laySeems_71 : decode cX7_laySeems 71 = .ok (.aload_n 0, 1) := by decide +kernel
theorem dX7_laySeems_72 : decode cX7_laySeems 72 = .ok (.aload_n 0, 1) := by decide +kernel
theorem dX7_laySeems_73 : decode cX7_laySeems 73 = .ok (.getfield 89, 3) := by decide +kernel
theorem dX7_laySeems_76 : decode cX7_laySeems 76 = .ok (.aload_n 0, 1) := by decide +kernel
theorem dX7_laySeems_77 : decode cX7_laySeems 77 = .ok (.getfield 175, 3) := by decide +kernel
theorem dX7_laySeems_80 : decode cX7_laySeems 80 = .ok (.invokevirtual 136, 3) := by decide +kernel
theorem dX7_laySeems_83 : decode cX7_laySeems 83 = .ok (.invokestatic 62, 3) := by decide +kernel
theorem dX7_laySeems_86 : decode cX7_laySeems 86 = .ok (.lstore 4, 2) := by decide +kernel
theorem dX7_laySeems_88 : decode cX7_laySeems 88 = .ok (.aload_n 0, 1) := by decide +kernel
theorem dX7_laySeems_89 : decode cX7_laySeems 89 = .ok (.lload_n 2, 1) := by decide +kernel
theorem dX7_laySeems_90 : decode cX7_laySeems 90 = .ok (.lload 4, 2) := by decide +kernel
theorem dX7_laySeems_92 : decode cX7_laySeems 92 = .ok (.ldiv, 1) := by decide +kernel
theorem dX7_laySeems_93 : decode cX7_laySeems 93 = .ok (.putfield 187, 3) := by decide +kernel
theorem dX7_laySeems_96 : decode cX7_laySeems 96 = .ok (.aload_n 0, 1) := by decide +kernel
theorem dX7_laySeems_97 : decode cX7_laySeems 97 = .ok (.aload_n 0, 1) := by decide +kernel
theorem dX7_laySeems_98 : decode cX7_laySeems 98 = .ok (.aload_n 0, 1) := by decide +kernel
theorem dX7_laySeems_99 : decode cX7_laySeems 99 = .ok (.getfield 89, 3) := by decide +kernel
theorem dX7_laySeems_102 : decode cX7_laySeems 102 = .ok (.aload_n 0, 1) := by decide +kernel
theorem dX7_laySeems_103 : decode cX7_laySeems 103 = .ok (.getfield 175, 3) := by decide +kernel
theorem dX7_laySeems_106 : decode cX7_laySeems 106 = .ok (.invokevirtual 136, 3) := by decide +kernel
theorem dX7_laySeems_109 : decode cX7_laySeems 109 = .ok (.lload 4, 2) := by decide +kernel
theorem dX7_laySeems_111 : decode cX7_laySeems 111 = .ok (.ldiv, 1) := by decide +kernel
theorem dX7_laySeems_112 : decode cX7_laySeems 112 = .ok (.putfield 190, 3) := by decide +kernel
theorem dX7_laySeems_115 : decode cX7_laySeems 115 = .ok (.return_, 1) := by decide +kernel
theorem dX7_seems_0 : decode cX7_seems 0 = .ok (.iload_n 1, 1) := by decide +kernel
theorem dX7_seems_1 : decode cX7_seems 1 = .ok (.invokestatic 181, 3) := by decide +kernel
theorem dX7_seems_4 : decode cX7_seems 4 = .ok (.ifCond .ne 7, 3) := by decide +kernel
theorem dX7_seems_7 : decode cX7_seems 7 = .ok (.ldc2_w 193, 3) := by decide +kernel
theorem dX7_seems_10 : decode cX7_seems 10 = .ok (.lreturn, 1) := by decide +kernel
theorem dX7_seems_11 : decode cX7_seems 11 = .ok (.iload_n 2, 1) := by decide +kernel
theorem dX7_seems_12 : decode cX7_seems 12 = .ok (.invokestatic 129, 3) := by decide +kernel
theorem dX7_seems_15 : decode cX7_seems 15 = .ok (.ifCond .ne 7, 3) := by decide +kernel
theorem dX7_seems_18 : decode cX7_seems 18 = .ok (.ldc2_w 132, 3) := by decide +kernel
theorem dX7_seems_21 : decode cX7_seems 21 = .ok (.lreturn, 1) := by decide +kernel
theorem dX7_seems_22 : decode cX7_seems 22 = .ok (.aload_n 0, 1) := by decide +kernel
theorem dX7_seems_23 : decode cX7_seems 23 = .ok (.iload_n 1, 1) := by decide +kernel
theorem dX7_seems_24 : decode cX7_seems 24 = .ok (.invokevirtual 195, 3) := by decide +kernel
theorem dX7_seems_27 : decode cX7_seems 27 = .ok (.iload_n 2, 1) := by decide +kernel
theorem dX7_seems_28 : decode cX7_seems 28 = .ok (.ifCond .ne 10, 3) := by decide +kernel
theorem dX7_seems_31 : decode cX7_seems 31 = .ok (.aload_n 0, 1) := by decide +kernel
theorem dX7_seems_32 : decode cX7_seems 32 = .ok (.getfield 187, 3) := by decide +kernel
theorem dX7_seems_35 : decode cX7_seems 35 = .ok (.goto 7, 3) := by decide +kernel
theorem dX7_seems_38 : decode cX7_seems 38 = .ok (.aload_n 0, 1) := by decide +kernel
theorem dX7_seems_39 : decode cX7_seems 39 = .ok (.getfield 190, 3) := by decide +kernel
theorem dX7_seems_42 : decode cX7_seems 42 = .ok (.lreturn, 1) := by decide +kernel
theorem dX7_isLess_0 : decode cX7_isLess 0 = .ok (.lload_n 0, 1) := by decide +kernel
theorem dX7_isLess_1 : decode cX7_isLess 1 = .ok (.lstore 8, 2) := by decide +kernel
theorem dX7_isLess_3 : decode cX7_isLess 3 = .ok (.lload_n 2, 1) := by decide +kernel
theorem dX7_isLess_4 : decode cX7_isLess 4 = .ok (.lstore 10, 2) := by decide +kernel
theorem dX7_isLess_6 : decode cX7_isLess 6 = .ok (.lload 4, 2) := by decide +kernel
theorem dX7_isLess_8 : decode cX7_isLess 8 = .ok (.lstore 12, 2) := by decide +kernel
theorem dX7_isLess_10 : decode cX7_isLess 10 = .ok (.lload 6, 2) := by decide +kernel
theorem dX7_isLess_12 : decode cX7_isLess 12 = .ok (.lstore 14, 2) := by decide +kernel
theorem dX7_isLess_14 : decode cX7_isLess 14 = .ok (.iconst 1, 1) := by decide +kernel
theorem dX7_isLess_15 : decode cX7_isLess 15 = .ok (.istore 16, 2) := by decide +kernel
theorem dX7_isLess_17 : decode cX7_isLess 17 = .ok (.lload 8, 2) := by decide +kernel
theorem dX7_isLess_19 : decode cX7_isLess 19 = .ok (.lload 10, 2) := by decide +kernel
theorem dX7_isLess_21 : decode cX7_isLess 21 = .ok (.ldiv, 1) := by decide +kernel
theorem dX7_isLess_22 : decode cX7_isLess 22 = .ok (.lstore 17, 2) := by decide +kernel
theorem dX7_isLess_24 : decode cX7_isLess 24 = .ok (.lload 12, 2) := by decide +kernel
theorem dX7_isLess_26 : decode cX7_isLess 26 = .ok (.lload 14, 2) := by decide +kernel
theorem dX7_isLess_28 : decode cX7_isLess 28 = .ok (.ldiv, 1) := by decide +kernel
theorem dX7_isLess_29 : decode cX7_isLess 29 = .ok (.lstore 19, 2) := by decide +kernel
theorem dX7_isLess_31 : decode cX7_isLess 31 = .ok (.lload 17, 2) := by decide +kernel
theorem dX7_isLess_33 : decode cX7_isLess 33 = .ok (.lload 19, 2) := by decide +kernel
theorem dX7_isLess_35 : decode cX7_isLess 35 = .ok (.lcmp, 1) := by decide +kernel
theorem dX7_isLess_36 : decode cX7_isLess 36 = .ok (.ifCond .eq 27, 3) := by decide +kernel
theorem dX7_isLess_39 : decode cX7_isLess 39 = .ok (.lload 17, 2) := by decide +kernel
theorem dX7_isLess_41 : decode cX7_isLess 41 = .ok (.lload 19, 2) := by decide +kernel
theorem dX7_isLess_43 : decode cX7_isLess 43 = .ok (.lcmp, 1) := by decide +kernel
theorem dX7_isLess_44 : decode cX7_isLess 44 = .ok (.ifCond .ge 7, 3) := by decide +kernel
theorem dX7_isLess_47 : decode cX7_isLess 47 = .ok (.iconst 1, 1) := by decide +kernel
theorem dX7_isLess_48 : decode cX7_isLess 48 = .ok (.goto 4, 3) := by decide +kernel
theorem dX7_isLess_51 : decode cX7_isLess 51 = .ok (.iconst 0, 1) := by decide +kernel
theorem dX7_isLess_52 : decode cX7_isLess 52 = .ok (.iload 16, 2) := by decide +kernel
theorem dX7_isLess_54 : decode cX7_isLess 54 = .ok (.if_icmp .ne 7, 3) := by decide +kernel
theorem dX7_isLess_57 : decode cX7_isLess 57 = .ok (.iconst 1, 1) := by decide +kernel
theorem dX7_isLess_58 : decode cX7_isLess 58 = .ok (.goto 4, 3) := by decide +kernel
theorem dX7_isLess_61 : decode cX7_isLess 61 = .ok (.iconst 0, 1) := by decide +kernel
theorem dX7_isLess_62 : decode cX7_isLess 62 = .ok (.ireturn, 1) := by decide +kernel
theorem dX7_isLess_63 : decode cX7_isLess 63 = .ok (.lload 8, 2) := by decide +kernel
theorem dX7_isLess_65 : decode cX7_isLess 65 = .ok (.lload 10, 2) := by decide +kernel
theorem dX7_isLess_67 : decode cX7_isLess 67 = .ok (.lrem, 1) := by decide +kernel
theorem dX7_isLess_68 : decode cX7_isLess 68 = .ok (.lstore 8, 2) := by decide +kernel
theorem dX7_isLess_70 : decode cX7_isLess 70 = .ok (.lload 12, 2) := by decide +kernel
theorem dX7_isLess_72 : decode cX7_isLess 72 = .ok (.lload 14, 2) := by decide +kernel
theorem dX7_isLess_74 : decode cX7_isLess 74 = .ok (.lrem, 1) := by decide +kernel
theorem dX7_isLess_75 : decode cX7_isLess 75 = .ok (.lstore 12, 2) := by decide +kernel
theorem dX7_isLess_77 : decode cX7_isLess 77 = .ok (.lload 8, 2) := by decide +kernel
theorem dX7_isLess_79 : decode cX7_isLess 79 = .ok (.lconst 0, 1) := by decide +kernel
theorem dX7_isLess_80 : decode cX7_isLess 80 = .ok (.lcmp, 1) := by decide +kernel
theorem dX7_isLess_81 : decode cX7_isLess 81 = .ok (.ifCond .eq 10, 3) := by decide +kernel
theorem dX7_isLess_84 : decode cX7_isLess 84 = .ok (.lload 12, 2) := by decide +kernel
theorem dX7_isLess_86 : decode cX7_isLess 86 = .ok (.lconst 0, 1) := by decide +kernel
theorem dX7_isLess_87 : decode cX7_isLess 87 = .ok (.lcmp, 1) := by decide +kernel
theorem dX7_isLess_88 : decode cX7_isLess 88 = .ok (.ifCond .ne 34, 3) := by decide +kernel
theorem dX7_isLess_91 : decode cX7_isLess 91 = .ok (.lload 8, 2) := by decide +kernel
theorem dX7_isLess_93 : decode cX7_isLess 93 = .ok (.lload 12, 2) := by decide +kernel
theorem dX7_isLess_95 : decode cX7_isLess 95 = .ok (.lcmp, 1) := by decide +kernel
theorem dX7_isLess_96 : decode cX7_isLess 96 = .ok (.ifCond .eq 24, 3) := by decide +kernel
theorem dX7_isLess_99 : decode cX7_isLess 99 = .ok (.lload 8, 2) := by decide +kernel
theorem dX7_isLess_101 : decode cX7_isLess 101 = .ok (.lconst 0, 1) := by decide +kernel
theorem dX7_isLess_102 : decode cX7_isLess 102 = .ok (.lcmp, 1) := by decide +kernel
theorem dX7_isLess_103 : decode cX7_isLess 103 = .ok (.ifCond .ne 7, 3) := by decide +kernel
theorem dX7_isLess_106 : decode cX7_isLess 106 = .ok (.iconst 1, 1) := by decide +kernel
theorem dX7_isLess_107 : decode cX7_isLess 107 = .ok (.goto 4, 3) := by decide +kernel
theorem dX7_isLess_110 : decode cX7_isLess 110 = .ok (.iconst 0, 1) := by decide +kernel
theorem dX7_isLess_111 : decode cX7_isLess 111 = .ok (.iload 16, 2) := by decide +kernel
theorem dX7_isLess_113 : decode cX7_isLess 113 = .ok (.if_icmp .ne 7, 3) := by decide +kernel
theorem dX7_isLess_116 : decode cX7_isLess 116 = .ok (.iconst 1, 1) := by decide +kernel
theorem dX7_isLess_117 : decode cX7_isLess 117 = .ok (.goto 4, 3) := by decide +kernel
theorem dX7_isLess_120 : decode cX7_isLess 120 = .ok (.iconst 0, 1) := by decide +kernel
theorem dX7_isLess_121 : decode cX7_isLess 121 = .ok (.ireturn, 1) := by decide +kernel
theorem dX7_isLess_122 : decode cX7_isLess 122 = .ok (.lload 8, 2) := by decide +kernel
theorem dX7_isLess_124 : decode cX7_isLess 124 = .ok (.lstore 21, 2) := by decide +kernel
theorem dX7_isLess_126 : decode cX7_isLess 126 = .ok (.lload 10, 2) := by decide +kernel
theorem dX7_isLess_128 : decode cX7_isLess 128 = .ok (.lstore 8, 2) := by decide +kernel
theorem dX7_isLess_130 : decode cX7_isLess 130 = .ok (.lload 21, 2) := by decide +kernel
theorem dX7_isLess_132 : decode cX7_isLess 132 = .ok (.lstore 10, 2) := by decide +kernel
theorem dX7_isLess_134 : decode cX7_isLess 134 = .ok (.lload 12, 2) := by decide +kernel
theorem dX7_isLess_136 : decode cX7_isLess 136 = .ok (.lstore 21, 2) := by decide +kernel
theorem dX7_isLess_138 : decode cX7_isLess 138 = .ok (.lload 14, 2) := by decide +kernel
theorem dX7_isLess_140 : decode cX7_isLess 140 = .ok (.lstore 12, 2) := by decide +kernel
theorem dX7_isLess_142 : decode cX7_isLess 142 = .ok (.lload 21, 2) := by decide +kernel
theorem dX7_isLess_144 : decode cX7_isLess 144 = .ok (.lstore 14, 2) := by decide +kernel
theorem dX7_isLess_146 : decode cX7_isLess 146 = .ok (.iload 16, 2) := by decide +kernel
theorem dX7_isLess_148 : decode cX7_isLess 148 = .ok (.ifCond .ne 7, 3) := by decide +kernel
theorem dX7_isLess_151 : decode cX7_isLess 151 = .ok (.iconst 1, 1) := by decide +kernel
theorem dX7_isLess_152 : decode cX7_isLess 152 = .ok (.goto 4, 3) := by decide +kernel
theorem dX7_isLess_155 : decode cX7_isLess 155 = .ok (.iconst 0, 1) := by decide +kernel
theorem dX7_isLess_156 : decode cX7_isLess 156 = .ok (.istore 16, 2) := by decide +kernel
theorem dX7_isLess_158 : decode cX7_isLess 158 = .ok (.goto (-141), 3) := by decide +kernel
theorem dX7_suspect_0 : decode cX7_suspect 0 = .ok (.bipush (-6), 2) := by decide +kernel
theorem dX7_suspect_2 : decode cX7_suspect 2 = .ok (.istore_n 1, 1) := by decide +kernel
theorem dX7_suspect_3 : decode cX7_suspect 3 = .ok (.lconst 0, 1) := by decide +kernel
theorem dX7_suspect_4 : decode cX7_suspect 4 = .ok (.lstore_n 2, 1) := by decide +kernel
theorem dX7_suspect_5 : decode cX7_suspect 5 = .ok (.lconst 1, 1) := by decide +kernel
theorem dX7_suspect_6 : decode cX7_suspect 6 = .ok (.lstore 4, 2) := by decide +kernel
theorem dX7_suspect_8 : decode cX7_suspect 8 = .ok (.iconst 0, 1) := by decide +kernel
theorem dX7_suspect_9 : decode cX7_suspect 9 = .ok (.istore 6, 2) := by decide +kernel
theorem dX7_suspect_11 : decode cX7_suspect 11 = .ok (.iload 6, 2) := by decide +kernel
theorem dX7_suspect_13 : decode cX7_suspect 13 = .ok (.iconst 5, 1) := by decide +kernel
theorem dX7_suspect_14 : decode cX7_suspect 14 = .ok (.if_icmp .ge 57, 3) := by decide +kernel
theorem dX7_suspect_17 : decode cX7_suspect 17 = .ok (.aload_n 0, 1) := by decide +kernel
theorem dX7_suspect_18 : decode cX7_suspect 18 = .ok (.iload 6, 2) := by decide +kernel
theorem dX7_suspect_20 : decode cX7_suspect 20 = .ok (.invokevirtual 195, 3) := by decide +kernel
theorem dX7_suspect_23 : decode cX7_suspect 23 = .ok (.aload_n 0, 1) := by decide +kernel
theorem dX7_suspect_24 : decode cX7_suspect 24 = .ok (.getfield 175, 3) := by decide +kernel
theorem dX7_suspect_27 : decode cX7_suspect 27 = .ok (.ifCond .le 38, 3) := by decide +kernel
theorem dX7_suspect_30 : decode cX7_suspect 30 = .ok (.iload_n 1, 1) := by decide +kernel
theorem dX7_suspect_31 : decode cX7_suspect 31 = .ok (.ifCond .lt 20, 3) := by decide +kernel
theorem dX7_suspect_34 : decode cX7_suspect 34 = .ok (.aload_n 0, 1) := by decide +kernel
theorem dX7_suspect_35 : decode cX7_suspect 35 = .ok (.getfield 187, 3) := by decide +kernel
theorem dX7_suspect_38 : decode cX7_suspect 38 = .ok (.aload_n 0, 1) := by decide +kernel
theorem dX7_suspect_39 : decode cX7_suspect 39 = .ok (.getfield 190, 3) := by decide +kernel
theorem dX7_suspect_42 : decode cX7_suspect 42 = .ok (.lload_n 2, 1) := by decide +kernel
theorem dX7_suspect_43 : decode cX7_suspect 43 = .ok (.lload 4, 2) := by decide +kernel
theorem dX7_suspect_45 : decode cX7_suspect 45 = .ok (.invokestatic 198, 3) := by decide +kernel
theorem dX7_suspect_48 : decode cX7_suspect 48 = .ok (.ifCond .eq 17, 3) := by decide +kernel
theorem dX7_suspect_51 : decode cX7_suspect 51 = .ok (.iload 6, 2) := by decide +kernel
theorem dX7_suspect_53 : decode cX7_suspect 53 = .ok (.istore_n 1, 1) := by decide +kernel
theorem dX7_suspect_54 : decode cX7_suspect 54 = .ok (.aload_n 0, 1) := by decide +kernel
theorem dX7_suspect_55 : decode cX7_suspect 55 = .ok (.getfield 187, 3) := by decide +kernel
theorem dX7_suspect_58 : decode cX7_suspect 58 = .ok (.lstore_n 2, 1) := by decide +kernel
theorem dX7_suspect_59 : decode cX7_suspect 59 = .ok (.aload_n 0, 1) := by decide +kernel
theorem dX7_suspect_60 : decode cX7_suspect 60 = .ok (.getfield 190, 3) := by decide +kernel
theorem dX7_suspect_63 : decode cX7_suspect 63 = .ok (.lstore 4, 2) := by decide +kernel
theorem dX7_suspect_65 : decode cX7_suspect 65 = .ok (.iinc 6 1, 3) := by decide +kernel
theorem dX7_suspect_68 : decode cX7_suspect 68 = .ok (.goto (-57), 3) := by decide +kernel
theorem dX7_suspect_71 : decode cX7_suspect 71 = .ok (.iload_n 1, 1) := by decide +kernel
theorem dX7_suspect_72 : decode cX7_suspect 72 = .ok (.ireturn, 1) := by decide +kernel
theorem dX7_shared_0 : decode cX7_shared 0 = .ok (.iload_n 1, 1) := by decide +kernel
theorem dX7_shared_1 : decode cX7_shared 1 = .ok (.invokestatic 181, 3) := by decide +kernel
theorem dX7_shared_4 : decode cX7_shared 4 = .ok (.ifCond .ne 7, 3) := by decide +kernel
theorem dX7_shared_7 : decode cX7_shared 7 = .ok (.ldc2_w 193, 3) := by decide +kernel
theorem dX7_shared_10 : decode cX7_shared 10 = .ok (.lreturn, 1) := by decide +kernel
theorem dX7_shared_11 : decode cX7_shared 11 = .ok (.iload_n 2, 1) := by decide +kernel
theorem dX7_shared_12 : decode cX7_shared 12 = .ok (.invokestatic 129, 3) := by decide +kernel
theorem dX7_shared_15 : decode cX7_shared 15 = .ok (.ifCond .ne 7, 3) := by decide +kernel
theorem dX7_shared_18 : decode cX7_shared 18 = .ok (.ldc2_w 132, 3) := by decide +kernel
theorem dX7_shared_21 : decode cX7_shared 21 = .ok (.lreturn, 1) := by decide +kernel
theorem dX7_shared_22 : decode cX7_shared 22 = .ok (.iconst 0, 1) := by decide +kernel
theorem dX7_shared_23 : decode cX7_shared 23 = .ok (.istore_n 3, 1) := by decide +kernel
theorem dX7_shared_24 : decode cX7_shared 24 = .ok (.iconst 0, 1) := by decide +kernel
theorem dX7_shared_25 : decode cX7_shared 25 = .ok (.istore 4, 2) := by decide +kernel
theorem dX7_shared_27 : decode cX7_shared 27 = .ok (.iload 4, 2) := by decide +kernel
theorem dX7_shared_29 : decode cX7_shared 29 = .ok (.iconst 5, 1) := by decide +kernel
theorem dX7_shared_30 : decode cX7_shared 30 = .ok (.if_icmp .ge 30, 3) := by decide +kernel
theorem dX7_shared_33 : decode cX7_shared 33 = .ok (.aload_n 0, 1) := by decide +kernel
theorem dX7_shared_34 : decode cX7_shared 34 = .ok (.iload 4, 2) := by decide +kernel
theorem dX7_shared_36 : decode cX7_shared 36 = .ok (.invokevirtual 184, 3) := by decide +kernel
theorem dX7_shared_39 : decode cX7_shared 39 = .ok (.iload_n 3, 1) := by decide +kernel
theorem dX7_shared_40 : decode cX7_shared 40 = .ok (.aload_n 0, 1) := by decide +kernel
theorem dX7_shared_41 : decode cX7_shared 41 = .ok (.getfield 175, 3) := by decide +kernel
theorem dX7_shared_44 : decode cX7_shared 44 = .ok (.ifCond .le 7, 3) := by decide +kernel
theorem dX7_shared_47 : decode cX7_shared 47 = .ok (.iconst 1, 1) := by decide +kernel
theorem dX7_shared_48 : decode cX7_shared 48 = .ok (.goto 4, 3) := by decide +kernel
theorem dX7_shared_51 : decode cX7_shared 51 = .ok (.iconst 0, 1) := by decide +kernel
theorem dX7_shared_52 : decode cX7_shared 52 = .ok (.iadd, 1) := by decide +kernel
theorem dX7_shared_53 : decode cX7_shared 53 = .ok (.istore_n 3, 1) := by decide +kernel
theorem dX7_shared_54 : decode cX7_shared 54 = .ok (.iinc 4 1, 3) := by decide +kernel
theorem dX7_shared_57 : decode cX7_shared 57 = .ok (.goto (-30), 3) := by decide +kernel
theorem dX7_shared_60 : decode cX7_shared 60 = .ok (.aload_n 0, 1) := by decide +kernel
theorem dX7_shared_61 : decode cX7_shared 61 = .ok (.iload_n 1, 1) := by decide +kernel
theorem dX7_shared_62 : decode cX7_shared 62 = .ok (.invokevirtual 195, 3) := by decide +kernel
theorem dX7_shared_65 : decode cX7_shared 65 = .ok (.aload_n 0, 1) := by decide +kernel
theorem dX7_shared_66 : decode cX7_shared 66 = .ok (.getfield 187, 3) := by decide +kernel
theorem dX7_shared_69 : decode cX7_shared 69 = .ok (.iload_n 3, 1) := by decide +kernel
theorem dX7_shared_70 : decode cX7_shared 70 = .ok (.i2l, 1) := by decide +kernel
theorem dX7_shared_71 : decode cX7_shared 71 = .ok (.lmul, 1) := by decide +kernel
theorem dX7_shared_72 : decode cX7_shared 72 = .ok (.lstore 4, 2) := by decide +kernel
theorem dX7_shared_74 : decode cX7_shared 74 = .ok (.lload 4, 2) := by decide +kernel
theorem dX7_shared_76 : decode cX7_shared 76 = .ok (.aload_n 0, 1) := by decide +kernel
theorem dX7_shared_77 : decode cX7_shared 77 = .ok (.getfield 190, 3) := by decide +kernel
theorem dX7_shared_80 : decode cX7_shared 80 = .ok (.lcmp, 1) := by decide +kernel
theorem dX7_shared_81 : decode cX7_shared 81 = .ok (.ifCond .lt 7, 3) := by decide +kernel
theorem dX7_shared_84 : decode cX7_shared 84 = .ok (.lconst 1, 1) := by decide +kernel
theorem dX7_shared_85 : decode cX7_shared 85 = .ok (.goto 13, 3) := by decide +kernel
theorem dX7_shared_88 : decode cX7_shared 88 = .ok (.lload 4, 2) := by decide +kernel
theorem dX7_shared_90 : decode cX7_shared 90 = .ok (.aload_n 0, 1) := by decide +kernel
theorem dX7_shared_91 : decode cX7_shared 91 = .ok (.getfield 190, 3) := by decide +kernel
theorem dX7_shared_94 : decode cX7_shared 94 = .ok (.iload_n 2, 1) := by decide +kernel
theorem dX7_shared_95 : decode cX7_shared 95 = .ok (.invokestatic 160, 3) := by decide +kernel
theorem dX7_shared_98 : decode cX7_shared 98 = .ok (.lreturn, 1) := by decide +kernel
theorem dX7_fine_0 : decode cX7_fine 0 = .ok (.iload_n 1, 1) := by decide +kernel
theorem dX7_fine_1 : decode cX7_fine 1 = .ok (.iconst 0, 1) := by decide +kernel
theorem dX7_fine_2 : decode cX7_fine 2 = .ok (.sipush 999, 3) := by decide +kernel
theorem dX7_fine_5 : decode cX7_fine 5 = .ok (.invokestatic 58, 3) := by decide +kernel
theorem dX7_fine_8 : decode cX7_fine 8 = .ok (.ifCond .eq 24, 3) := by decide +kernel
theorem dX7_fine_11 : decode cX7_fine 11 = .ok (.iload_n 2, 1) := by decide +kernel
theorem dX7_fine_12 : decode cX7_fine 12 = .ok (.iconst 0, 1) := by decide +kernel
theorem dX7_fine_13 : decode cX7_fine 13 = .ok (.bipush 10, 2) := by decide +kernel
theorem dX7_fine_15 : decode cX7_fine 15 = .ok (.invokestatic 58, 3) := by decide +kernel
theorem dX7_fine_18 : decode cX7_fine 18 = .ok (.ifCond .eq 14, 3) := by decide +kernel
theorem dX7_fine_21 : decode cX7_fine 21 = .ok (.iload_n 3, 1) := by decide +kernel
theorem dX7_fine_22 : decode cX7_fine 22 = .ok (.iconst 0, 1) := by decide +kernel
theorem dX7_fine_23 : decode cX7_fine 23 = .ok (.sipush 999, 3) := by decide +kernel
theorem dX7_fine_26 : decode cX7_fine 26 = .ok (.invokestatic 58, 3) := by decide +kernel
theorem dX7_fine_29 : decode cX7_fine 29 = .ok (.ifCond .ne 6, 3) := by decide +kernel
theorem dX7_fine_32 : decode cX7_fine 32 = .ok (.bipush (-2), 2) := by decide +kernel
theorem dX7_fine_34 : decode cX7_fine 34 = .ok (.ireturn, 1) := by decide +kernel
theorem dX7_fine_35 : decode cX7_fine 35 = .ok (.iconst 0, 1) := by decide +kernel
theorem dX7_fine_36 : decode cX7_fine 36 = .ok (.istore 4, 2) := by decide +kernel
theorem dX7_fine_38 : decode cX7_fine 38 = .ok (.iload 4, 2) := by decide +kernel
theorem dX7_fine_40 : decode cX7_fine 40 = .ok (.sipush 10000, 3) := by decide +kernel
theorem dX7_fine_43 : decode cX7_fine 43 = .ok (.if_icmp .ge 25, 3) := by decide +kernel
theorem dX7_fine_46 : decode cX7_fine 46 = .ok (.bipush 10, 2) := by decide +kernel
theorem dX7_fine_48 : decode cX7_fine 48 = .ok (.iload_n 3, 1) := by decide +kernel
theorem dX7_fine_49 : decode cX7_fine 49 = .ok (.imul, 1) := by decide +kernel
theorem dX7_fine_50 : decode cX7_fine 50 = .ok (.iload_n 2, 1) := by decide +kernel
theorem dX7_fine_51 : decode cX7_fine 51 = .ok (.iload 4, 2) := by decide +kernel
theorem dX7_fine_53 : decode cX7_fine 53 = .ok (.iload_n 1, 1) := by decide +kernel
theorem dX7_fine_54 : decode cX7_fine 54 = .ok (.iadd, 1) := by decide +kernel
theorem dX7_fine_55 : decode cX7_fine 55 = .ok (.imul, 1) := by decide +kernel
theorem dX7_fine_56 : decode cX7_fine 56 = .ok (.if_icmp .gt 6, 3) := by decide +kernel
theorem dX7_fine_59 : decode cX7_fine 59 = .ok (.iload 4, 2) := by decide +kernel
theorem dX7_fine_61 : decode cX7_fine 61 = .ok (.ireturn, 1) := by decide +kernel
theorem dX7_fine_62 : decode cX7_fine 62 = .ok (.iinc 4 1, 3) := by decide +kernel
theorem dX7_fine_65 : decode cX7_fine 65 = .ok (.goto (-27), 3) := by decide +kernel
theorem dX7_fine_68 : decode cX7_fine 68 = .ok (.bipush (-6), 2) := by decide +kernel
theorem dX7_fine_70 : decode cX7_fine 70 = .ok (.ireturn, 1) := by decide +kernel
theorem dX7_word_0 : decode cX7_word 0 = .ok (.iload_n 1, 1) := by decide +kernel
theorem dX7_word_1 : decode cX7_word 1 = .ok (.iconst 0, 1) := by decide +kernel
theorem dX7_word_2 : decode cX7_word 2 = .ok (.bipush 10, 2) := by decide +kernel
theorem dX7_word_4 : decode cX7_word 4 = .ok (.invokestatic 58, 3) := by decide +kernel
theorem dX7_word_7 : decode cX7_word 7 = .ok (.ifCond .eq 20, 3) := by decide +kernel
theorem dX7_word_10 : decode cX7_word 10 = .ok (.iload_n 2, 1) := by decide +kernel
theorem dX7_word_11 : decode cX7_word 11 = .ok (.iconst 0, 1) := by decide +kernel
theorem dX7_word_12 : decode cX7_word 12 = .ok (.bipush 10, 2) := by decide +kernel
theorem dX7_word_14 : decode cX7_word 14 = .ok (.invokestatic 58, 3) := by decide +kernel
theorem dX7_word_17 : decode cX7_word 17 = .ok (.ifCond .eq 10, 3) := by decide +kernel
theorem dX7_word_20 : decode cX7_word 20 = .ok (.iload_n 3, 1) := by decide +kernel
theorem dX7_word_21 : decode cX7_word 21 = .ok (.invokestatic 129, 3) := by decide +kernel
theorem dX7_word_24 : decode cX7_word 24 = .ok (.ifCond .ne 7, 3) := by decide +kernel
theorem dX7_word_27 : decode cX7_word 27 = .ok (.ldc2_w 132, 3) := by decide +kernel
theorem dX7_word_30 : decode cX7_word 30 = .ok (.lreturn, 1) := by decide +kernel
theorem dX7_word_31 : decode cX7_word 31 = .ok (.aload_n 0, 1) := by decide +kernel
theorem dX7_word_32 : decode cX7_word 32 = .ok (.aload_n 0, 1) := by decide +kernel
theorem dX7_word_33 : decode cX7_word 33 = .ok (.invokevirtual 108, 3) := by decide +kernel
theorem dX7_word_36 : decode cX7_word 36 = .ok (.invokevirtual 111, 3) := by decide +kernel
theorem dX7_word_39 : decode cX7_word 39 = .ok (.aload_n 0, 1) := by decide +kernel
theorem dX7_word_40 : decode cX7_word 40 = .ok (.getfield 89, 3) := by decide +kernel
theorem dX7_word_43 : decode cX7_word 43 = .ok (.ifCond .ne 7, 3) := by decide +kernel
theorem dX7_word_46 : decode cX7_word 46 = .ok (.ldc2_w 134, 3) := by decide +kernel
theorem dX7_word_49 : decode cX7_word 49 = .ok (.lreturn, 1) := by decide +kernel
theorem dX7_word_50 : decode cX7_word 50 = .ok (.aload_n 0, 1) := by decide +kernel
theorem dX7_word_51 : decode cX7_word 51 = .ok (.getfield 89, 3) := by decide +kernel
theorem dX7_word_54 : decode cX7_word 54 = .ok (.aload_n 0, 1) := by decide +kernel
theorem dX7_word_55 : decode cX7_word 55 = .ok (.getfield 92, 3) := by decide +kernel
theorem dX7_word_58 : decode cX7_word 58 = .ok (.isub, 1) := by decide +kernel
theorem dX7_word_59 : decode cX7_word 59 = .ok (.iload_n 1, 1) := by decide +kernel
theorem dX7_word_60 : decode cX7_word 60 = .ok (.imul, 1) := by decide +kernel
theorem dX7_word_61 : decode cX7_word 61 = .ok (.i2l, 1) := by decide +kernel
theorem dX7_word_62 : decode cX7_word 62 = .ok (.lstore 4, 2) := by decide +kernel
theorem dX7_word_64 : decode cX7_word 64 = .ok (.lload 4, 2) := by decide +kernel
theorem dX7_word_66 : decode cX7_word 66 = .ok (.aload_n 0, 1) := by decide +kernel
theorem dX7_word_67 : decode cX7_word 67 = .ok (.getfield 92, 3) := by decide +kernel
theorem dX7_word_70 : decode cX7_word 70 = .ok (.iload_n 2, 1) := by decide +kernel
theorem dX7_word_71 : decode cX7_word 71 = .ok (.imul, 1) := by decide +kernel
theorem dX7_word_72 : decode cX7_word 72 = .ok (.i2l, 1) := by decide +kernel
theorem dX7_word_73 : decode cX7_word 73 = .ok (.ladd, 1) := by decide +kernel
theorem dX7_word_74 : decode cX7_word 74 = .ok (.lstore 6, 2) := by decide +kernel
theorem dX7_word_76 : decode cX7_word 76 = .ok (.lload 6, 2) := by decide +kernel
theorem dX7_word_78 : decode cX7_word 78 = .ok (.lconst 0, 1) := by decide +kernel
theorem dX7_word_79 : decode cX7_word 79 = .ok (.lcmp, 1) := by decide +kernel
theorem dX7_word_80 : decode cX7_word 80 = .ok (.ifCond .ne 8, 3) := by decide +kernel
theorem dX7_word_83 : decode cX7_word 83 = .ok (.iload_n 3, 1) := by decide +kernel
theorem dX7_word_84 : decode cX7_word 84 = .ok (.i2l, 1) := by decide +kernel
theorem dX7_word_85 : decode cX7_word 85 = .ok (.goto 11, 3) := by decide +kernel
theorem dX7_word_88 : decode cX7_word 88 = .ok (.lload 4, 2) := by decide +kernel
theorem dX7_word_90 : decode cX7_word 90 = .ok (.lload 6, 2) := by decide +kernel
theorem dX7_word_92 : decode cX7_word 92 = .ok (.iload_n 3, 1) := by decide +kernel
theorem dX7_word_93 : decode cX7_word 93 = .ok (.invokestatic 160, 3) := by decide +kernel
theorem dX7_word_96 : decode cX7_word 96 = .ok (.lreturn, 1) := by decide +kernel
theorem dX7_lossOf_0 : decode cX7_lossOf 0 = .ok (.aload_n 0, 1) := by decide +kernel
theorem dX7_lossOf_1 : decode cX7_lossOf 1 = .ok (.aload_n 0, 1) := by decide +kernel
theorem dX7_lossOf_2 : decode cX7_lossOf 2 = .ok (.invokevirtual 108, 3) := by decide +kernel
theorem dX7_lossOf_5 : decode cX7_lossOf 5 = .ok (.invokevirtual 111, 3) := by decide +kernel
theorem dX7_lossOf_8 : decode cX7_lossOf 8 = .ok (.aload_n 0, 1) := by decide +kernel
theorem dX7_lossOf_9 : decode cX7_lossOf 9 = .ok (.invokevirtual 115, 3) := by decide +kernel
theorem dX7_lossOf_12 : decode cX7_lossOf 12 = .ok (.istore_n 2, 1) := by decide +kernel
theorem dX7_lossOf_13 : decode cX7_lossOf 13 = .ok (.aload_n 0, 1) := by decide +kernel
theorem dX7_lossOf_14 : decode cX7_lossOf 14 = .ok (.aload_n 0, 1) := by decide +kernel
theorem dX7_lossOf_15 : decode cX7_lossOf 15 = .ok (.invokevirtual 108, 3) := by decide +kernel
theorem dX7_lossOf_18 : decode cX7_lossOf 18 = .ok (.iconst 1, 1) := by decide +kernel
theorem dX7_lossOf_19 : decode cX7_lossOf 19 = .ok (.iload_n 1, 1) := by decide +kernel
theorem dX7_lossOf_20 : decode cX7_lossOf 20 = .ok (.ishl, 1) := by decide +kernel
theorem dX7_lossOf_21 : decode cX7_lossOf 21 = .ok (.iconst (-1), 1) := by decide +kernel
theorem dX7_lossOf_22 : decode cX7_lossOf 22 = .ok (.ixor, 1) := by decide +kernel
theorem dX7_lossOf_23 : decode cX7_lossOf 23 = .ok (.iand, 1) := by decide +kernel
theorem dX7_lossOf_24 : decode cX7_lossOf 24 = .ok (.invokevirtual 111, 3) := by decide +kernel
theorem dX7_lossOf_27 : decode cX7_lossOf 27 = .ok (.iload_n 2, 1) := by decide +kernel
theorem dX7_lossOf_28 : decode cX7_lossOf 28 = .ok (.aload_n 0, 1) := by decide +kernel
theorem dX7_lossOf_29 : decode cX7_lossOf 29 = .ok (.invokevirtual 115, 3) := by decide +kernel
theorem dX7_lossOf_32 : decode cX7_lossOf 32 = .ok (.isub, 1) := by decide +kernel
theorem dX7_lossOf_33 : decode cX7_lossOf 33 = .ok (.ireturn, 1) := by decide +kernel
theorem dX7_isOverfull_0 : decode cX7_isOverfull 0 = .ok (.aload_n 0, 1) := by decide +kernel
theorem dX7_isOverfull_1 : decode cX7_isOverfull 1 = .ok (.aload_n 0, 1) := by decide +kernel
theorem dX7_isOverfull_2 : decode cX7_isOverfull 2 = .ok (.invokevirtual 108, 3) := by decide +kernel
theorem dX7_isOverfull_5 : decode cX7_isOverfull 5 = .ok (.invokevirtual 111, 3) := by decide +kernel
theorem dX7_isOverfull_8 : decode cX7_isOverfull 8 = .ok (.aload_n 0, 1) := by decide +kernel
theorem dX7_isOverfull_9 : decode cX7_isOverfull 9 = .ok (.getfield 104, 3) := by decide +kernel
theorem dX7_isOverfull_12 : decode cX7_isOverfull 12 = .ok (.ireturn, 1) := by decide +kernel
theorem dX7_strike_0 : decode cX7_strike 0 = .ok (.iload_n 1, 1) := by decide +kernel
theorem dX7_strike_1 : decode cX7_strike 1 = .ok (.invokestatic 86, 3) := by decide +kernel
theorem dX7_strike_4 : decode cX7_strike 4 = .ok (.ifCond .ne 5, 3) := by decide +kernel
theorem dX7_strike_7 : decode cX7_strike 7 = .ok (.iconst (-1), 1) := by decide +kernel
theorem dX7_strike_8 : decode cX7_strike 8 = .ok (.ireturn, 1) := by decide +kernel
theorem dX7_strike_9 : decode cX7_strike 9 = .ok (.aload_n 0, 1) := by decide +kernel
theorem dX7_strike_10 : decode cX7_strike 10 = .ok (.invokevirtual 202, 3) := by decide +kernel
theorem dX7_strike_13 : decode cX7_strike 13 = .ok (.ifCond .ne 13, 3) := by decide +kernel
theorem dX7_strike_16 : decode cX7_strike 16 = .ok (.aload_n 0, 1) := by decide +kernel
theorem dX7_strike_17 : decode cX7_strike 17 = .ok (.getfield 16, 3) := by decide +kernel
theorem dX7_strike_20 : decode cX7_strike 20 = .ok (.iload_n 1, 1) := by decide +kernel
theorem dX7_strike_21 : decode cX7_strike 21 = .ok (.iaload, 1) := by decide +kernel
theorem dX7_strike_22 : decode cX7_strike 22 = .ok (.iconst 1, 1) := by decide +kernel
theorem dX7_strike_23 : decode cX7_strike 23 = .ok (.if_icmp .ne 8, 3) := by decide +kernel
theorem dX7_strike_26 : decode cX7_strike 26 = .ok (.bipush (-3), 2) := by decide +kernel
theorem dX7_strike_28 : decode cX7_strike 28 = .ok (.goto 8, 3) := by decide +kernel
theorem dX7_strike_31 : decode cX7_strike 31 = .ok (.aload_n 0, 1) := by decide +kernel
theorem dX7_strike_32 : decode cX7_strike 32 = .ok (.iload_n 1, 1) := by decide +kernel
theorem dX7_strike_33 : decode cX7_strike 33 = .ok (.invokevirtual 206, 3) := by decide +kernel
theorem dX7_strike_36 : decode cX7_strike 36 = .ok (.ireturn, 1) := by decide +kernel
theorem dX7_worst_0 : decode cX7_worst 0 = .ok (.aload_n 0, 1) := by decide +kernel
theorem dX7_worst_1 : decode cX7_worst 1 = .ok (.invokevirtual 202, 3) := by decide +kernel
theorem dX7_worst_4 : decode cX7_worst 4 = .ok (.ifCond .eq 6, 3) := by decide +kernel
theorem dX7_worst_7 : decode cX7_worst 7 = .ok (.bipush (-3), 2) := by decide +kernel
theorem dX7_worst_9 : decode cX7_worst 9 = .ok (.ireturn, 1) := by decide +kernel
theorem dX7_worst_10 : decode cX7_worst 10 = .ok (.bipush (-6), 2) := by decide +kernel
theorem dX7_worst_12 : decode cX7_worst 12 = .ok (.istore_n 1, 1) := by decide +kernel
theorem dX7_worst_13 : decode cX7_worst 13 = .ok (.iconst 0, 1) := by decide +kernel
theorem dX7_worst_14 : decode cX7_worst 14 = .ok (.istore_n 2, 1) := by decide +kernel
theorem dX7_worst_15 : decode cX7_worst 15 = .ok (.iconst 0, 1) := by decide +kernel
theorem dX7_worst_16 : decode cX7_worst 16 = .ok (.istore_n 3, 1) := by decide +kernel
theorem dX7_worst_17 : decode cX7_worst 17 = .ok (.iload_n 3, 1) := by decide +kernel
theorem dX7_worst_18 : decode cX7_worst 18 = .ok (.bipush 6, 2) := by decide +kernel
theorem dX7_worst_20 : decode cX7_worst 20 = .ok (.if_icmp .ge 65, 3) := by decide +kernel
theorem dX7_worst_23 : decode cX7_worst 23 = .ok (.aload_n 0, 1) := by decide +kernel
theorem dX7_worst_24 : decode cX7_worst 24 = .ok (.getfield 16, 3) := by decide +kernel
theorem dX7_worst_27 : decode cX7_worst 27 = .ok (.iload_n 3, 1) := by decide +kernel
theorem dX7_worst_28 : decode cX7_worst 28 = .ok (.iaload, 1) := by decide +kernel
theorem dX7_worst_29 : decode cX7_worst 29 = .ok (.ifCond .ne 50, 3) := by decide +kernel
theorem dX7_worst_32 : decode cX7_worst 32 = .ok (.aload_n 0, 1) := by decide +kernel
theorem dX7_worst_33 : decode cX7_worst 33 = .ok (.iload_n 3, 1) := by decide +kernel
theorem dX7_worst_34 : decode cX7_worst 34 = .ok (.invokevirtual 206, 3) := by decide +kernel
theorem dX7_worst_37 : decode cX7_worst 37 = .ok (.istore 4, 2) := by decide +kernel
theorem dX7_worst_39 : decode cX7_worst 39 = .ok (.iload_n 1, 1) := by decide +kernel
theorem dX7_worst_40 : decode cX7_worst 40 = .ok (.ifCond .lt 9, 3) := by decide +kernel
theorem dX7_worst_43 : decode cX7_worst 43 = .ok (.iload 4, 2) := by decide +kernel
theorem dX7_worst_45 : decode cX7_worst 45 = .ok (.iload_n 2, 1) := by decide +kernel
theorem dX7_worst_46 : decode cX7_worst 46 = .ok (.if_icmp .le 7, 3) := by decide +kernel
theorem dX7_worst_49 : decode cX7_worst 49 = .ok (.iconst 1, 1) := by decide +kernel
theorem dX7_worst_50 : decode cX7_worst 50 = .ok (.goto 4, 3) := by decide +kernel
theorem dX7_worst_53 : decode cX7_worst 53 = .ok (.iconst 0, 1) := by decide +kernel
theorem dX7_worst_54 : decode cX7_worst 54 = .ok (.istore 5, 2) := by decide +kernel
theorem dX7_worst_56 : decode cX7_worst 56 = .ok (.iload 5, 2) := by decide +kernel
theorem dX7_worst_58 : decode cX7_worst 58 = .ok (.ifCond .eq 7, 3) := by decide +kernel
theorem dX7_worst_61 : decode cX7_worst 61 = .ok (.iload_n 3, 1) := by decide +kernel
theorem dX7_worst_62 : decode cX7_worst 62 = .ok (.goto 4, 3) := by decide +kernel
theorem dX7_worst_65 : decode cX7_worst 65 = .ok (.iload_n 1, 1) := by decide +kernel
theorem dX7_worst_66 : decode cX7_worst 66 = .ok (.istore_n 1, 1) := by decide +kernel
theorem dX7_worst_67 : decode cX7_worst 67 = .ok (.iload 5, 2) := by decide +kernel
theorem dX7_worst_69 : decode cX7_worst 69 = .ok (.ifCond .eq 8, 3) := by decide +kernel
theorem dX7_worst_72 : decode cX7_worst 72 = .ok (.iload 4, 2) := by decide +kernel
theorem dX7_worst_74 : decode cX7_worst 74 = .ok (.goto 4, 3) := by decide +kernel
theorem dX7_worst_77 : decode cX7_worst 77 = .ok (.iload_n 2, 1) := by decide +kernel
theorem dX7_worst_78 : decode cX7_worst 78 = .ok (.istore_n 2, 1) := by decide +kernel
theorem dX7_worst_79 : decode cX7_worst 79 = .ok (.iinc 3 1, 3) := by decide +kernel
theorem dX7_worst_82 : decode cX7_worst 82 = .ok (.goto (-65), 3) := by decide +kernel
theorem dX7_worst_85 : decode cX7_worst 85 = .ok (.iload_n 1, 1) := by decide +kernel
theorem dX7_worst_86 : decode cX7_worst 86 = .ok (.ireturn, 1) := by decide +kernel
theorem dX7_against_0 : decode cX7_against 0 = .ok (.aload_n 0, 1) := by decide +kernel
theorem dX7_against_1 : decode cX7_against 1 = .ok (.iload_n 2, 1) := by decide +kernel
theorem dX7_against_2 : decode cX7_against 2 = .ok (.iload_n 1, 1) := by decide +kernel
theorem dX7_against_3 : decode cX7_against 3 = .ok (.iconst 0, 1) := by decide +kernel
theorem dX7_against_4 : decode cX7_against 4 = .ok (.iconst 1, 1) := by decide +kernel
theorem dX7_against_5 : decode cX7_against 5 = .ok (.invokestatic 58, 3) := by decide +kernel
theorem dX7_against_8 : decode cX7_against 8 = .ok (.invokevirtual 150, 3) := by decide +kernel
theorem dX7_against_11 : decode cX7_against 11 = .ok (.istore_n 3, 1) := by decide +kernel
theorem dX7_against_12 : decode cX7_against 12 = .ok (.iload_n 3, 1) := by decide +kernel
theorem dX7_against_13 : decode cX7_against 13 = .ok (.ifCond .ge 5, 3) := by decide +kernel
theorem dX7_against_16 : decode cX7_against 16 = .ok (.iload_n 3, 1) := by decide +kernel
theorem dX7_against_17 : decode cX7_against 17 = .ok (.ireturn, 1) := by decide +kernel
theorem dX7_against_18 : decode cX7_against 18 = .ok (.iload_n 1, 1) := by decide +kernel
theorem dX7_against_19 : decode cX7_against 19 = .ok (.ifCond .eq 12, 3) := by decide +kernel
theorem dX7_against_22 : decode cX7_against 22 = .ok (.aload_n 0, 1) := by decide +kernel
theorem dX7_against_23 : decode cX7_against 23 = .ok (.getfield 95, 3) := by decide +kernel
theorem dX7_against_26 : decode cX7_against 26 = .ok (.bipush 30, 2) := by decide +kernel
theorem dX7_against_28 : decode cX7_against 28 = .ok (.if_icmp .le 8, 3) := by decide +kernel
theorem dX7_against_31 : decode cX7_against 31 = .ok (.bipush 30, 2) := by decide +kernel
theorem dX7_against_33 : decode cX7_against 33 = .ok (.goto 7, 3) := by decide +kernel
theorem dX7_against_36 : decode cX7_against 36 = .ok (.aload_n 0, 1) := by decide +kernel
theorem dX7_against_37 : decode cX7_against 37 = .ok (.getfield 95, 3) := by decide +kernel
theorem dX7_against_40 : decode cX7_against 40 = .ok (.istore 4, 2) := by decide +kernel
theorem dX7_against_42 : decode cX7_against 42 = .ok (.iconst 0, 1) := by decide +kernel
theorem dX7_against_43 : decode cX7_against 43 = .ok (.istore 5, 2) := by decide +kernel
theorem dX7_against_45 : decode cX7_against 45 = .ok (.iload 5, 2) := by decide +kernel
theorem dX7_against_47 : decode cX7_against 47 = .ok (.iload 4, 2) := by decide +kernel
theorem dX7_against_49 : decode cX7_against 49 = .ok (.if_icmp .gt 108, 3) := by decide +kernel
theorem dX7_against_52 : decode cX7_against 52 = .ok (.aload_n 0, 1) := by decide +kernel
theorem dX7_against_53 : decode cX7_against 53 = .ok (.getfield 89, 3) := by decide +kernel
theorem dX7_against_56 : decode cX7_against 56 = .ok (.iload 5, 2) := by decide +kernel
theorem dX7_against_58 : decode cX7_against 58 = .ok (.iadd, 1) := by decide +kernel
theorem dX7_against_59 : decode cX7_against 59 = .ok (.bipush 60, 2) := by decide +kernel
theorem dX7_against_61 : decode cX7_against 61 = .ok (.if_icmp .gt 96, 3) := by decide +kernel
theorem dX7_against_64 : decode cX7_against 64 = .ok (.iload_n 1, 1) := by decide +kernel
theorem dX7_against_65 : decode cX7_against 65 = .ok (.ifCond .ne 31, 3) := by decide +kernel
theorem dX7_against_68 : decode cX7_against 68 = .ok (.aload_n 0, 1) := by decide +kernel
theorem dX7_against_69 : decode cX7_against 69 = .ok (.aload_n 0, 1) := by decide +kernel
theorem dX7_against_70 : decode cX7_against 70 = .ok (.getfield 101, 3) := by decide +kernel
theorem dX7_against_73 : decode cX7_against 73 = .ok (.aload_n 0, 1) := by decide +kernel
theorem dX7_against_74 : decode cX7_against 74 = .ok (.getfield 95, 3) := by decide +kernel
theorem dX7_against_77 : decode cX7_against 77 = .ok (.aload_n 0, 1) := by decide +kernel
theorem dX7_against_78 : decode cX7_against 78 = .ok (.getfield 98, 3) := by decide +kernel
theorem dX7_against_81 : decode cX7_against 81 = .ok (.iadd, 1) := by decide +kernel
theorem dX7_against_82 : decode cX7_against 82 = .ok (.aload_n 0, 1) := by decide +kernel
theorem dX7_against_83 : decode cX7_against 83 = .ok (.getfield 92, 3) := by decide +kernel
theorem dX7_against_86 : decode cX7_against 86 = .ok (.iload 5, 2) := by decide +kernel
theorem dX7_against_88 : decode cX7_against 88 = .ok (.iadd, 1) := by decide +kernel
theorem dX7_against_89 : decode cX7_against 89 = .ok (.iload_n 2, 1) := by decide +kernel
theorem dX7_against_90 : decode cX7_against 90 = .ok (.invokevirtual 147, 3) := by decide +kernel
theorem dX7_against_93 : decode cX7_against 93 = .ok (.goto 31, 3) := by decide +kernel
theorem dX7_against_96 : decode cX7_against 96 = .ok (.aload_n 0, 1) := by decide +kernel
theorem dX7_against_97 : decode cX7_against 97 = .ok (.aload_n 0, 1) := by decide +kernel
theorem dX7_against_98 : decode cX7_against 98 = .ok (.getfield 101, 3) := by decide +kernel
theorem dX7_against_101 : decode cX7_against 101 = .ok (.iload 5, 2) := by decide +kernel
theorem dX7_against_103 : decode cX7_against 103 = .ok (.iadd, 1) := by decide +kernel
theorem dX7_against_104 : decode cX7_against 104 = .ok (.aload_n 0, 1) := by decide +kernel
theorem dX7_against_105 : decode cX7_against 105 = .ok (.getfield 95, 3) := by decide +kernel
theorem dX7_against_108 : decode cX7_against 108 = .ok (.aload_n 0, 1) := by decide +kernel
theorem dX7_against_109 : decode cX7_against 109 = .ok (.getfield 98, 3) := by decide +kernel
theorem dX7_against_112 : decode cX7_against 112 = .ok (.iadd, 1) := by decide +kernel
theorem dX7_against_113 : decode cX7_against 113 = .ok (.iload 5, 2) := by decide +kernel
theorem dX7_against_115 : decode cX7_against 115 = .ok (.isub, 1) := by decide +kernel
theorem dX7_against_116 : decode cX7_against 116 = .ok (.aload_n 0, 1) := by decide +kernel
theorem dX7_against_117 : decode cX7_against 117 = .ok (.getfield 92, 3) := by decide +kernel
theorem dX7_against_120 : decode cX7_against 120 = .ok (.iload_n 2, 1) := by decide +kernel
theorem dX7_against_121 : decode cX7_against 121 = .ok (.invokevirtual 147, 3) := by decide +kernel
theorem dX7_against_124 : decode cX7_against 124 = .ok (.lstore 6, 2) := by decide +kernel
theorem dX7_against_126 : decode cX7_against 126 = .ok (.ldc2_w 209, 3) := by decide +kernel
theorem dX7_against_129 : decode cX7_against 129 = .ok (.lload 6, 2) := by decide +kernel
theorem dX7_against_131 : decode cX7_against 131 = .ok (.lmul, 1) := by decide +kernel
theorem dX7_against_132 : decode cX7_against 132 = .ok (.aload_n 0, 1) := by decide +kernel
theorem dX7_against_133 : decode cX7_against 133 = .ok (.aload_n 0, 1) := by decide +kernel
theorem dX7_against_134 : decode cX7_against 134 = .ok (.getfield 89, 3) := by decide +kernel
theorem dX7_against_137 : decode cX7_against 137 = .ok (.iload 5, 2) := by decide +kernel
theorem dX7_against_139 : decode cX7_against 139 = .ok (.iadd, 1) := by decide +kernel
theorem dX7_against_140 : decode cX7_against 140 = .ok (.iload_n 2, 1) := by decide +kernel
theorem dX7_against_141 : decode cX7_against 141 = .ok (.invokevirtual 136, 3) := by decide +kernel
theorem dX7_against_144 : decode cX7_against 144 = .ok (.lcmp, 1) := by decide +kernel
theorem dX7_against_145 : decode cX7_against 145 = .ok (.ifCond .ge 6, 3) := by decide +kernel
theorem dX7_against_148 : decode cX7_against 148 = .ok (.iload 5, 2) := by decide +kernel
theorem dX7_against_150 : decode cX7_against 150 = .ok (.ireturn, 1) := by decide +kernel
theorem dX7_against_151 : decode cX7_against 151 = .ok (.iinc 5 1, 3) := by decide +kernel
theorem dX7_against_154 : decode cX7_against 154 = .ok (.goto (-109), 3) := by decide +kernel
theorem dX7_against_157 : decode cX7_against 157 = .ok (.bipush (-6), 2) := by decide +kernel
theorem dX7_against_159 : decode cX7_against 159 = .ok (.ireturn, 1) := by decide +kernel
theorem dX7_heap_0 : decode cX7_heap 0 = .ok (.aload_n 0, 1) := by decide +kernel
theorem dX7_heap_1 : decode cX7_heap 1 = .ok (.iload_n 2, 1) := by decide +kernel
theorem dX7_heap_2 : decode cX7_heap 2 = .ok (.iload_n 1, 1) := by decide +kernel
theorem dX7_heap_3 : decode cX7_heap 3 = .ok (.iconst 0, 1) := by decide +kernel
theorem dX7_heap_4 : decode cX7_heap 4 = .ok (.sipush 9999, 3) := by decide +kernel
theorem dX7_heap_7 : decode cX7_heap 7 = .ok (.invokestatic 58, 3) := by decide +kernel
theorem dX7_heap_10 : decode cX7_heap 10 = .ok (.ifCond .eq 16, 3) := by decide +kernel
theorem dX7_heap_13 : decode cX7_heap 13 = .ok (.iload_n 3, 1) := by decide +kernel
theorem dX7_heap_14 : decode cX7_heap 14 = .ok (.iconst 0, 1) := by decide +kernel
theorem dX7_heap_15 : decode cX7_heap 15 = .ok (.iconst 2, 1) := by decide +kernel
theorem dX7_heap_16 : decode cX7_heap 16 = .ok (.invokestatic 58, 3) := by decide +kernel
theorem dX7_heap_19 : decode cX7_heap 19 = .ok (.ifCond .eq 7, 3) := by decide +kernel
theorem dX7_heap_22 : decode cX7_heap 22 = .ok (.iconst 1, 1) := by decide +kernel
theorem dX7_heap_23 : decode cX7_heap 23 = .ok (.goto 4, 3) := by decide +kernel
theorem dX7_heap_26 : decode cX7_heap 26 = .ok (.iconst 0, 1) := by decide +kernel
theorem dX7_heap_27 : decode cX7_heap 27 = .ok (.invokevirtual 150, 3) := by decide +kernel
theorem dX7_heap_30 : decode cX7_heap 30 = .ok (.istore 4, 2) := by decide +kernel
theorem dX7_heap_32 : decode cX7_heap 32 = .ok (.iload 4, 2) := by decide +kernel
theorem dX7_heap_34 : decode cX7_heap 34 = .ok (.ifCond .ge 6, 3) := by decide +kernel
theorem dX7_heap_37 : decode cX7_heap 37 = .ok (.iload 4, 2) := by decide +kernel
theorem dX7_heap_39 : decode cX7_heap 39 = .ok (.ireturn, 1) := by decide +kernel
theorem dX7_heap_40 : decode cX7_heap 40 = .ok (.aload_n 0, 1) := by decide +kernel
theorem dX7_heap_41 : decode cX7_heap 41 = .ok (.getfield 89, 3) := by decide +kernel
theorem dX7_heap_44 : decode cX7_heap 44 = .ok (.istore 5, 2) := by decide +kernel
theorem dX7_heap_46 : decode cX7_heap 46 = .ok (.iconst 0, 1) := by decide +kernel
theorem dX7_heap_47 : decode cX7_heap 47 = .ok (.istore 6, 2) := by decide +kernel
theorem dX7_heap_49 : decode cX7_heap 49 = .ok (.iconst 0, 1) := by decide +kernel
theorem dX7_heap_50 : decode cX7_heap 50 = .ok (.istore 7, 2) := by decide +kernel
theorem dX7_heap_52 : decode cX7_heap 52 = .ok (.iload 7, 2) := by decide +kernel
theorem dX7_heap_54 : decode cX7_heap 54 = .ok (.bipush 6, 2) := by decide +kernel
theorem dX7_heap_56 : decode cX7_heap 56 = .ok (.if_icmp .ge 63, 3) := by decide +kernel
theorem dX7_heap_59 : decode cX7_heap 59 = .ok (.iconst 0, 1) := by decide +kernel
theorem dX7_heap_60 : decode cX7_heap 60 = .ok (.istore 8, 2) := by decide +kernel
theorem dX7_heap_62 : decode cX7_heap 62 = .ok (.iload 8, 2) := by decide +kernel
theorem dX7_heap_64 : decode cX7_heap 64 = .ok (.aload_n 0, 1) := by decide +kernel
theorem dX7_heap_65 : decode cX7_heap 65 = .ok (.getfield 19, 3) := by decide +kernel
theorem dX7_heap_68 : decode cX7_heap 68 = .ok (.iload 7, 2) := by decide +kernel
theorem dX7_heap_70 : decode cX7_heap 70 = .ok (.iaload, 1) := by decide +kernel
theorem dX7_heap_71 : decode cX7_heap 71 = .ok (.if_icmp .ge 42, 3) := by decide +kernel
theorem dX7_heap_74 : decode cX7_heap 74 = .ok (.aload_n 0, 1) := by decide +kernel
theorem dX7_heap_75 : decode cX7_heap 75 = .ok (.getfield 16, 3) := by decide +kernel
theorem dX7_heap_78 : decode cX7_heap 78 = .ok (.iload 7, 2) := by decide +kernel
theorem dX7_heap_80 : decode cX7_heap 80 = .ok (.iaload, 1) := by decide +kernel
theorem dX7_heap_81 : decode cX7_heap 81 = .ok (.ifCond .ne 32, 3) := by decide +kernel
theorem dX7_heap_84 : decode cX7_heap 84 = .ok (.aload_n 0, 1) := by decide +kernel
theorem dX7_heap_85 : decode cX7_heap 85 = .ok (.getfield 48, 3) := by decide +kernel
theorem dX7_heap_88 : decode cX7_heap 88 = .ok (.iload 6, 2) := by decide +kernel
theorem dX7_heap_90 : decode cX7_heap 90 = .ok (.aload_n 0, 1) := by decide +kernel
theorem dX7_heap_91 : decode cX7_heap 91 = .ok (.getfield 22, 3) := by decide +kernel
theorem dX7_heap_94 : decode cX7_heap 94 = .ok (.bipush 10, 2) := by decide +kernel
theorem dX7_heap_96 : decode cX7_heap 96 = .ok (.iload 7, 2) := by decide +kernel
theorem dX7_heap_98 : decode cX7_heap 98 = .ok (.imul, 1) := by decide +kernel
theorem dX7_heap_99 : decode cX7_heap 99 = .ok (.iload 8, 2) := by decide +kernel
theorem dX7_heap_101 : decode cX7_heap 101 = .ok (.iadd, 1) := by decide +kernel
theorem dX7_heap_102 : decode cX7_heap 102 = .ok (.iaload, 1) := by decide +kernel
theorem dX7_heap_103 : decode cX7_heap 103 = .ok (.iastore, 1) := by decide +kernel
theorem dX7_heap_104 : decode cX7_heap 104 = .ok (.iinc 6 1, 3) := by decide +kernel
theorem dX7_heap_107 : decode cX7_heap 107 = .ok (.iinc 8 1, 3) := by decide +kernel
theorem dX7_heap_110 : decode cX7_heap 110 = .ok (.goto (-48), 3) := by decide +kernel
theorem dX7_heap_113 : decode cX7_heap 113 = .ok (.iinc 7 1, 3) := by decide +kernel
theorem dX7_heap_116 : decode cX7_heap 116 = .ok (.goto (-64), 3) := by decide +kernel
theorem dX7_heap_119 : decode cX7_heap 119 = .ok (.iconst 0, 1) := by decide +kernel
theorem dX7_heap_120 : decode cX7_heap 120 = .ok (.istore 7, 2) := by decide +kernel
theorem dX7_heap_122 : decode cX7_heap 122 = .ok (.iload 7, 2) := by decide +kernel
theorem dX7_heap_124 : decode cX7_heap 124 = .ok (.bipush 26, 2) := by decide +kernel
theorem dX7_heap_126 : decode cX7_heap 126 = .ok (.if_icmp .ge 17, 3) := by decide +kernel
theorem dX7_heap_129 : decode cX7_heap 129 = .ok (.aload_n 0, 1) := by decide +kernel
theorem dX7_heap_130 : decode cX7_heap 130 = .ok (.getfield 39, 3) := by decide +kernel
theorem dX7_heap_133 : decode cX7_heap 133 = .ok (.iload 7, 2) := by decide +kernel
theorem dX7_heap_135 : decode cX7_heap 135 = .ok (.iconst 0, 1) := by decide +kernel
theorem dX7_heap_136 : decode cX7_heap 136 = .ok (.iastore, 1) := by decide +kernel
theorem dX7_heap_137 : decode cX7_heap 137 = .ok (.iinc 7 1, 3) := by decide +kernel
theorem dX7_heap_140 : decode cX7_heap 140 = .ok (.goto (-18), 3) := by decide +kernel
theorem dX7_heap_143 : decode cX7_heap 143 = .ok (.iload_n 1, 1) := by decide +kernel
theorem dX7_heap_144 : decode cX7_heap 144 = .ok (.istore 7, 2) := by decide +kernel
theorem dX7_heap_146 : decode cX7_heap 146 = .ok (.iconst 0, 1) := by decide +kernel
theorem dX7_heap_147 : decode cX7_heap 147 = .ok (.istore 8, 2) := by decide +kernel
theorem dX7_heap_149 : decode cX7_heap 149 = .ok (.iconst 0, 1) := by decide +kernel
theorem dX7_heap_150 : decode cX7_heap 150 = .ok (.istore 9, 2) := by decide +kernel
theorem dX7_heap_152 : decode cX7_heap 152 = .ok (.iconst 0, 1) := by decide +kernel
theorem dX7_heap_153 : decode cX7_heap 153 = .ok (.istore 10, 2) := by decide +kernel
theorem dX7_heap_155 : decode cX7_heap 155 = .ok (.iload 10, 2) := by decide +kernel
theorem dX7_heap_157 : decode cX7_heap 157 = .ok (.iload_n 2, 1) := by decide +kernel
theorem dX7_heap_158 : decode cX7_heap 158 = .ok (.if_icmp .ge 138, 3) := by decide +kernel
theorem dX7_heap_161 : decode cX7_heap 161 = .ok (.iload 7, 2) := by decide +kernel
theorem dX7_heap_163 : decode cX7_heap 163 = .ok (.bipush 75, 2) := by decide +kernel
theorem dX7_heap_165 : decode cX7_heap 165 = .ok (.imul, 1) := by decide +kernel
theorem dX7_heap_166 : decode cX7_heap 166 = .ok (.bipush 74, 2) := by decide +kernel
theorem dX7_heap_168 : decode cX7_heap 168 = .ok (.iadd, 1) := by decide +kernel
theorem dX7_heap_169 : decode cX7_heap 169 = .ok (.ldc 211, 2) := by decide +kernel
theorem dX7_heap_171 : decode cX7_heap 171 = .ok (.irem, 1) := by decide +kernel
theorem dX7_heap_172 : decode cX7_heap 172 = .ok (.istore 7, 2) := by decide +kernel
theorem dX7_heap_174 : decode cX7_heap 174 = .ok (.iload 7, 2) := by decide +kernel
theorem dX7_heap_176 : decode cX7_heap 176 = .ok (.iload 6, 2) := by decide +kernel
theorem dX7_heap_178 : decode cX7_heap 178 = .ok (.irem, 1) := by decide +kernel
theorem dX7_heap_179 : decode cX7_heap 179 = .ok (.istore 11, 2) := by decide +kernel
theorem dX7_heap_181 : decode cX7_heap 181 = .ok (.aload_n 0, 1) := by decide +kernel
theorem dX7_heap_182 : decode cX7_heap 182 = .ok (.getfield 48, 3) := by decide +kernel
theorem dX7_heap_185 : decode cX7_heap 185 = .ok (.iload 11, 2) := by decide +kernel
theorem dX7_heap_187 : decode cX7_heap 187 = .ok (.iaload, 1) := by decide +kernel
theorem dX7_heap_188 : decode cX7_heap 188 = .ok (.istore 12, 2) := by decide +kernel
theorem dX7_heap_190 : decode cX7_heap 190 = .ok (.iinc 6 (-1), 3) := by decide +kernel
theorem dX7_heap_193 : decode cX7_heap 193 = .ok (.iload 11, 2) := by decide +kernel
theorem dX7_heap_195 : decode cX7_heap 195 = .ok (.istore 13, 2) := by decide +kernel
theorem dX7_heap_197 : decode cX7_heap 197 = .ok (.iload 13, 2) := by decide +kernel
theorem dX7_heap_199 : decode cX7_heap 199 = .ok (.iload 6, 2) := by decide +kernel
theorem dX7_heap_201 : decode cX7_heap 201 = .ok (.if_icmp .ge 25, 3) := by decide +kernel
theorem dX7_heap_204 : decode cX7_heap 204 = .ok (.aload_n 0, 1) := by decide +kernel
theorem dX7_heap_205 : decode cX7_heap 205 = .ok (.getfield 48, 3) := by decide +kernel
theorem dX7_heap_208 : decode cX7_heap 208 = .ok (.iload 13, 2) := by decide +kernel
theorem dX7_heap_210 : decode cX7_heap 210 = .ok (.aload_n 0, 1) := by decide +kernel
theorem dX7_heap_211 : decode cX7_heap 211 = .ok (.getfield 48, 3) := by decide +kernel
theorem dX7_heap_214 : decode cX7_heap 214 = .ok (.iload 13, 2) := by decide +kernel
theorem dX7_heap_216 : decode cX7_heap 216 = .ok (.iconst 1, 1) := by decide +kernel
theorem dX7_heap_217 : decode cX7_heap 217 = .ok (.iadd, 1) := by decide +kernel
theorem dX7_heap_218 : decode cX7_heap 218 = .ok (.iaload, 1) := by decide +kernel
theorem dX7_heap_219 : decode cX7_heap 219 = .ok (.iastore, 1) := by decide +kernel
theorem dX7_heap_220 : decode cX7_heap 220 = .ok (.iinc 13 1, 3) := by decide +kernel
theorem dX7_heap_223 : decode cX7_heap 223 = .ok (.goto (-26), 3) := by decide +kernel
theorem dX7_heap_226 : decode cX7_heap 226 = .ok (.iload 8, 2) := by decide +kernel
theorem dX7_heap_228 : decode cX7_heap 228 = .ok (.iload 12, 2) := by decide +kernel
theorem dX7_heap_230 : decode cX7_heap 230 = .ok (.invokestatic 69, 3) := by decide +kernel
theorem dX7_heap_233 : decode cX7_heap 233 = .ok (.ifCond .eq 7, 3) := by decide +kernel
theorem dX7_heap_236 : decode cX7_heap 236 = .ok (.iconst 0, 1) := by decide +kernel
theorem dX7_heap_237 : decode cX7_heap 237 = .ok (.goto 4, 3) := by decide +kernel
theorem dX7_heap_240 : decode cX7_heap 240 = .ok (.iconst 1, 1) := by decide +kernel
theorem dX7_heap_241 : decode cX7_heap 241 = .ok (.iadd, 1) := by decide +kernel
theorem dX7_heap_242 : decode cX7_heap 242 = .ok (.istore 8, 2) := by decide +kernel
theorem dX7_heap_244 : decode cX7_heap 244 = .ok (.iload 12, 2) := by decide +kernel
theorem dX7_heap_246 : decode cX7_heap 246 = .ok (.invokestatic 73, 3) := by decide +kernel
theorem dX7_heap_249 : decode cX7_heap 249 = .ok (.ifCond .eq 41, 3) := by decide +kernel
theorem dX7_heap_252 : decode cX7_heap 252 = .ok (.aload_n 0, 1) := by decide +kernel
theorem dX7_heap_253 : decode cX7_heap 253 = .ok (.getfield 39, 3) := by decide +kernel
theorem dX7_heap_256 : decode cX7_heap 256 = .ok (.iload 12, 2) := by decide +kernel
theorem dX7_heap_258 : decode cX7_heap 258 = .ok (.bipush 65, 2) := by decide +kernel
theorem dX7_heap_260 : decode cX7_heap 260 = .ok (.isub, 1) := by decide +kernel
theorem dX7_heap_261 : decode cX7_heap 261 = .ok (.dup2, 1) := by decide +kernel
theorem dX7_heap_262 : decode cX7_heap 262 = .ok (.iaload, 1) := by decide +kernel
theorem dX7_heap_263 : decode cX7_heap 263 = .ok (.iconst 1, 1) := by decide +kernel
theorem dX7_heap_264 : decode cX7_heap 264 = .ok (.iadd, 1) := by decide +kernel
theorem dX7_heap_265 : decode cX7_heap 265 = .ok (.iastore, 1) := by decide +kernel
theorem dX7_heap_266 : decode cX7_heap 266 = .ok (.iload 9, 2) := by decide +kernel
theorem dX7_heap_268 : decode cX7_heap 268 = .ok (.aload_n 0, 1) := by decide +kernel
theorem dX7_heap_269 : decode cX7_heap 269 = .ok (.getfield 39, 3) := by decide +kernel
theorem dX7_heap_272 : decode cX7_heap 272 = .ok (.iload 12, 2) := by decide +kernel
theorem dX7_heap_274 : decode cX7_heap 274 = .ok (.bipush 65, 2) := by decide +kernel
theorem dX7_heap_276 : decode cX7_heap 276 = .ok (.isub, 1) := by decide +kernel
theorem dX7_heap_277 : decode cX7_heap 277 = .ok (.iaload, 1) := by decide +kernel
theorem dX7_heap_278 : decode cX7_heap 278 = .ok (.iconst 2, 1) := by decide +kernel
theorem dX7_heap_279 : decode cX7_heap 279 = .ok (.if_icmp .ne 7, 3) := by decide +kernel
theorem dX7_heap_282 : decode cX7_heap 282 = .ok (.iconst 1, 1) := by decide +kernel
theorem dX7_heap_283 : decode cX7_heap 283 = .ok (.goto 4, 3) := by decide +kernel
theorem dX7_heap_286 : decode cX7_heap 286 = .ok (.iconst 0, 1) := by decide +kernel
theorem dX7_heap_287 : decode cX7_heap 287 = .ok (.iadd, 1) := by decide +kernel
theorem dX7_heap_288 : decode cX7_heap 288 = .ok (.istore 9, 2) := by decide +kernel
theorem dX7_heap_290 : decode cX7_heap 290 = .ok (.iinc 10 1, 3) := by decide +kernel
theorem dX7_heap_293 : decode cX7_heap 293 = .ok (.goto (-138), 3) := by decide +kernel
theorem dX7_heap_296 : decode cX7_heap 296 = .ok (.iload_n 3, 1) := by decide +kernel
theorem dX7_heap_297 : decode cX7_heap 297 = .ok (.ifCond .ne 8, 3) := by decide +kernel
theorem dX7_heap_300 : decode cX7_heap 300 = .ok (.iload 8, 2) := by decide +kernel
theorem dX7_heap_302 : decode cX7_heap 302 = .ok (.goto 32, 3) := by decide +kernel
theorem dX7_heap_305 : decode cX7_heap 305 = .ok (.iload_n 3, 1) := by decide +kernel
theorem dX7_heap_306 : decode cX7_heap 306 = .ok (.iconst 1, 1) := by decide +kernel
theorem dX7_heap_307 : decode cX7_heap 307 = .ok (.if_icmp .ne 8, 3) := by decide +kernel
theorem dX7_heap_310 : decode cX7_heap 310 = .ok (.iload 9, 2) := by decide +kernel
theorem dX7_heap_312 : decode cX7_heap 312 = .ok (.goto 22, 3) := by decide +kernel
theorem dX7_heap_315 : decode cX7_heap 315 = .ok (.aload_n 0, 1) := by decide +kernel
theorem dX7_heap_316 : decode cX7_heap 316 = .ok (.iload 5, 2) := by decide +kernel
theorem dX7_heap_318 : decode cX7_heap 318 = .ok (.iload_n 2, 1) := by decide +kernel
theorem dX7_heap_319 : decode cX7_heap 319 = .ok (.iload 8, 2) := by decide +kernel
theorem dX7_heap_321 : decode cX7_heap 321 = .ok (.iload 9, 2) := by decide +kernel
theorem dX7_heap_323 : decode cX7_heap 323 = .ok (.invokevirtual 144, 3) := by decide +kernel
theorem dX7_heap_326 : decode cX7_heap 326 = .ok (.ifCond .eq 7, 3) := by decide +kernel
theorem dX7_heap_329 : decode cX7_heap 329 = .ok (.iconst 1, 1) := by decide +kernel
theorem dX7_heap_330 : decode cX7_heap 330 = .ok (.goto 4, 3) := by decide +kernel
theorem dX7_heap_333 : decode cX7_heap 333 = .ok (.iconst 0, 1) := by decide +kernel
theorem dX7_heap_334 : decode cX7_heap 334 = .ok (.ireturn, 1) := by decide +kernel
theorem dX7_image_0 : decode cX7_image 0 = .ok (.iload_n 1, 1) := by decide +kernel
theorem dX7_image_1 : decode cX7_image 1 = .ok (.iconst 0, 1) := by decide +kernel
theorem dX7_image_2 : decode cX7_image 2 = .ok (.iconst 1, 1) := by decide +kernel
theorem dX7_image_3 : decode cX7_image 3 = .ok (.invokestatic 58, 3) := by decide +kernel
theorem dX7_image_6 : decode cX7_image 6 = .ok (.ifCond .ne 6, 3) := by decide +kernel
theorem dX7_image_9 : decode cX7_image 9 = .ok (.bipush (-2), 2) := by decide +kernel
theorem dX7_image_11 : decode cX7_image 11 = .ok (.ireturn, 1) := by decide +kernel
theorem dX7_image_12 : decode cX7_image 12 = .ok (.bipush 92, 2) := by decide +kernel
theorem dX7_image_14 : decode cX7_image 14 = .ok (.iload_n 1, 1) := by decide +kernel
theorem dX7_image_15 : decode cX7_image 15 = .ok (.imul, 1) := by decide +kernel
theorem dX7_image_16 : decode cX7_image 16 = .ok (.istore_n 2, 1) := by decide +kernel
theorem dX7_image_17 : decode cX7_image 17 = .ok (.iconst 0, 1) := by decide +kernel
theorem dX7_image_18 : decode cX7_image 18 = .ok (.istore_n 3, 1) := by decide +kernel
theorem dX7_image_19 : decode cX7_image 19 = .ok (.iload_n 3, 1) := by decide +kernel
theorem dX7_image_20 : decode cX7_image 20 = .ok (.bipush 6, 2) := by decide +kernel
theorem dX7_image_22 : decode cX7_image 22 = .ok (.if_icmp .ge 57, 3) := by decide +kernel
theorem dX7_image_25 : decode cX7_image 25 = .ok (.aload_n 0, 1) := by decide +kernel
theorem dX7_image_26 : decode cX7_image 26 = .ok (.getfield 51, 3) := by decide +kernel
theorem dX7_image_29 : decode cX7_image 29 = .ok (.iload_n 2, 1) := by decide +kernel
theorem dX7_image_30 : decode cX7_image 30 = .ok (.iload_n 3, 1) := by decide +kernel
theorem dX7_image_31 : decode cX7_image 31 = .ok (.iadd, 1) := by decide +kernel
theorem dX7_image_32 : decode cX7_image 32 = .ok (.aload_n 0, 1) := by decide +kernel
theorem dX7_image_33 : decode cX7_image 33 = .ok (.getfield 13, 3) := by decide +kernel
theorem dX7_image_36 : decode cX7_image 36 = .ok (.iload_n 3, 1) := by decide +kernel
theorem dX7_image_37 : decode cX7_image 37 = .ok (.iaload, 1) := by decide +kernel
theorem dX7_image_38 : decode cX7_image 38 = .ok (.iastore, 1) := by decide +kernel
theorem dX7_image_39 : decode cX7_image 39 = .ok (.aload_n 0, 1) := by decide +kernel
theorem dX7_image_40 : decode cX7_image 40 = .ok (.getfield 51, 3) := by decide +kernel
theorem dX7_image_43 : decode cX7_image 43 = .ok (.iload_n 2, 1) := by decide +kernel
theorem dX7_image_44 : decode cX7_image 44 = .ok (.bipush 6, 2) := by decide +kernel
theorem dX7_image_46 : decode cX7_image 46 = .ok (.iadd, 1) := by decide +kernel
theorem dX7_image_47 : decode cX7_image 47 = .ok (.iload_n 3, 1) := by decide +kernel
theorem dX7_image_48 : decode cX7_image 48 = .ok (.iadd, 1) := by decide +kernel
theorem dX7_image_49 : decode cX7_image 49 = .ok (.aload_n 0, 1) := by decide +kernel
theorem dX7_image_50 : decode cX7_image 50 = .ok (.getfield 16, 3) := by decide +kernel
theorem dX7_image_53 : decode cX7_image 53 = .ok (.iload_n 3, 1) := by decide +kernel
theorem dX7_image_54 : decode cX7_image 54 = .ok (.iaload, 1) := by decide +kernel
theorem dX7_image_55 : decode cX7_image 55 = .ok (.iastore, 1) := by decide +kernel
theorem dX7_image_56 : decode cX7_image 56 = .ok (.aload_n 0, 1) := by decide +kernel
theorem dX7_image_57 : decode cX7_image 57 = .ok (.getfield 51, 3) := by decide +kernel
theorem dX7_image_60 : decode cX7_image 60 = .ok (.iload_n 2, 1) := by decide +kernel
theorem dX7_image_61 : decode cX7_image 61 = .ok (.bipush 12, 2) := by decide +kernel
theorem dX7_image_63 : decode cX7_image 63 = .ok (.iadd, 1) := by decide +kernel
theorem dX7_image_64 : decode cX7_image 64 = .ok (.iload_n 3, 1) := by decide +kernel
theorem dX7_image_65 : decode cX7_image 65 = .ok (.iadd, 1) := by decide +kernel
theorem dX7_image_66 : decode cX7_image 66 = .ok (.aload_n 0, 1) := by decide +kernel
theorem dX7_image_67 : decode cX7_image 67 = .ok (.getfield 19, 3) := by decide +kernel
theorem dX7_image_70 : decode cX7_image 70 = .ok (.iload_n 3, 1) := by decide +kernel
theorem dX7_image_71 : decode cX7_image 71 = .ok (.iaload, 1) := by decide +kernel
theorem dX7_image_72 : decode cX7_image 72 = .ok (.iastore, 1) := by decide +kernel
theorem dX7_image_73 : decode cX7_image 73 = .ok (.iinc 3 1, 3) := by decide +kernel
theorem dX7_image_76 : decode cX7_image 76 = .ok (.goto (-57), 3) := by decide +kernel
theorem dX7_image_79 : decode cX7_image 79 = .ok (.iconst 0, 1) := by decide +kernel
theorem dX7_image_80 : decode cX7_image 80 = .ok (.istore_n 3, 1) := by decide +kernel
theorem dX7_image_81 : decode cX7_image 81 = .ok (.iload_n 3, 1) := by decide +kernel
theorem dX7_image_82 : decode cX7_image 82 = .ok (.bipush 60, 2) := by decide +kernel
theorem dX7_image_84 : decode cX7_image 84 = .ok (.if_icmp .ge 26, 3) := by decide +kernel
theorem dX7_image_87 : decode cX7_image 87 = .ok (.aload_n 0, 1) := by decide +kernel
theorem dX7_image_88 : decode cX7_image 88 = .ok (.getfield 51, 3) := by decide +kernel
theorem dX7_image_91 : decode cX7_image 91 = .ok (.iload_n 2, 1) := by decide +kernel
theorem dX7_image_92 : decode cX7_image 92 = .ok (.bipush 18, 2) := by decide +kernel
theorem dX7_image_94 : decode cX7_image 94 = .ok (.iadd, 1) := by decide +kernel
theorem dX7_image_95 : decode cX7_image 95 = .ok (.iload_n 3, 1) := by decide +kernel
theorem dX7_image_96 : decode cX7_image 96 = .ok (.iadd, 1) := by decide +kernel
theorem dX7_image_97 : decode cX7_image 97 = .ok (.aload_n 0, 1) := by decide +kernel
theorem dX7_image_98 : decode cX7_image 98 = .ok (.getfield 22, 3) := by decide +kernel
theorem dX7_image_101 : decode cX7_image 101 = .ok (.iload_n 3, 1) := by decide +kernel
theorem dX7_image_102 : decode cX7_image 102 = .ok (.iaload, 1) := by decide +kernel
theorem dX7_image_103 : decode cX7_image 103 = .ok (.iastore, 1) := by decide +kernel
theorem dX7_image_104 : decode cX7_image 104 = .ok (.iinc 3 1, 3) := by decide +kernel
theorem dX7_image_107 : decode cX7_image 107 = .ok (.goto (-26), 3) := by decide +kernel
theorem dX7_image_110 : decode cX7_image 110 = .ok (.aload_n 0, 1) := by decide +kernel
theorem dX7_image_111 : decode cX7_image 111 = .ok (.getfield 51, 3) := by decide +kernel
theorem dX7_image_114 : decode cX7_image 114 = .ok (.iload_n 2, 1) := by decide +kernel
theorem dX7_image_115 : decode cX7_image 115 = .ok (.bipush 78, 2) := by decide +kernel
theorem dX7_image_117 : decode cX7_image 117 = .ok (.iadd, 1) := by decide +kernel
theorem dX7_image_118 : decode cX7_image 118 = .ok (.aload_n 0, 1) := by decide +kernel
theorem dX7_image_119 : decode cX7_image 119 = .ok (.getfield 25, 3) := by decide +kernel
theorem dX7_image_122 : decode cX7_image 122 = .ok (.iastore, 1) := by decide +kernel
theorem dX7_image_123 : decode cX7_image 123 = .ok (.aload_n 0, 1) := by decide +kernel
theorem dX7_image_124 : decode cX7_image 124 = .ok (.getfield 51, 3) := by decide +kernel
theorem dX7_image_127 : decode cX7_image 127 = .ok (.iload_n 2, 1) := by decide +kernel
theorem dX7_image_128 : decode cX7_image 128 = .ok (.bipush 79, 2) := by decide +kernel
theorem dX7_image_130 : decode cX7_image 130 = .ok (.iadd, 1) := by decide +kernel
theorem dX7_image_131 : decode cX7_image 131 = .ok (.aload_n 0, 1) := by decide +kernel
theorem dX7_image_132 : decode cX7_image 132 = .ok (.getfield 29, 3) := by decide +kernel
theorem dX7_image_135 : decode cX7_image 135 = .ok (.iastore, 1) := by decide +kernel
theorem dX7_image_136 : decode cX7_image 136 = .ok (.iconst 0, 1) := by decide +kernel
theorem dX7_image_137 : decode cX7_image 137 = .ok (.istore_n 3, 1) := by decide +kernel
theorem dX7_image_138 : decode cX7_image 138 = .ok (.iload_n 3, 1) := by decide +kernel
theorem dX7_image_139 : decode cX7_image 139 = .ok (.bipush 11, 2) := by decide +kernel
theorem dX7_image_141 : decode cX7_image 141 = .ok (.if_icmp .ge 26, 3) := by decide +kernel
theorem dX7_image_144 : decode cX7_image 144 = .ok (.aload_n 0, 1) := by decide +kernel
theorem dX7_image_145 : decode cX7_image 145 = .ok (.getfield 51, 3) := by decide +kernel
theorem dX7_image_148 : decode cX7_image 148 = .ok (.iload_n 2, 1) := by decide +kernel
theorem dX7_image_149 : decode cX7_image 149 = .ok (.bipush 80, 2) := by decide +kernel
theorem dX7_image_151 : decode cX7_image 151 = .ok (.iadd, 1) := by decide +kernel
theorem dX7_image_152 : decode cX7_image 152 = .ok (.iload_n 3, 1) := by decide +kernel
theorem dX7_image_153 : decode cX7_image 153 = .ok (.iadd, 1) := by decide +kernel
theorem dX7_image_154 : decode cX7_image 154 = .ok (.aload_n 0, 1) := by decide +kernel
theorem dX7_image_155 : decode cX7_image 155 = .ok (.getfield 32, 3) := by decide +kernel
theorem dX7_image_158 : decode cX7_image 158 = .ok (.iload_n 3, 1) := by decide +kernel
theorem dX7_image_159 : decode cX7_image 159 = .ok (.iaload, 1) := by decide +kernel
theorem dX7_image_160 : decode cX7_image 160 = .ok (.iastore, 1) := by decide +kernel
theorem dX7_image_161 : decode cX7_image 161 = .ok (.iinc 3 1, 3) := by decide +kernel
theorem dX7_image_164 : decode cX7_image 164 = .ok (.goto (-26), 3) := by decide +kernel
theorem dX7_image_167 : decode cX7_image 167 = .ok (.aload_n 0, 1) := by decide +kernel
theorem dX7_image_168 : decode cX7_image 168 = .ok (.getfield 54, 3) := by decide +kernel
theorem dX7_image_171 : decode cX7_image 171 = .ok (.iload_n 1, 1) := by decide +kernel
theorem dX7_image_172 : decode cX7_image 172 = .ok (.iconst 1, 1) := by decide +kernel
theorem dX7_image_173 : decode cX7_image 173 = .ok (.bastore, 1) := by decide +kernel
theorem dX7_image_174 : decode cX7_image 174 = .ok (.iconst 1, 1) := by decide +kernel
theorem dX7_image_175 : decode cX7_image 175 = .ok (.ireturn, 1) := by decide +kernel
theorem dX7_restore_0 : decode cX7_restore 0 = .ok (.iload_n 1, 1) := by decide +kernel
theorem dX7_restore_1 : decode cX7_restore 1 = .ok (.iconst 0, 1) := by decide +kernel
theorem dX7_restore_2 : decode cX7_restore 2 = .ok (.iconst 1, 1) := by decide +kernel
theorem dX7_restore_3 : decode cX7_restore 3 = .ok (.invokestatic 58, 3) := by decide +kernel
theorem dX7_restore_6 : decode cX7_restore 6 = .ok (.ifCond .ne 6, 3) := by decide +kernel
theorem dX7_restore_9 : decode cX7_restore 9 = .ok (.bipush (-2), 2) := by decide +kernel
theorem dX7_restore_11 : decode cX7_restore 11 = .ok (.ireturn, 1) := by decide +kernel
theorem dX7_restore_12 : decode cX7_restore 12 = .ok (.aload_n 0, 1) := by decide +kernel
theorem dX7_restore_13 : decode cX7_restore 13 = .ok (.getfield 54, 3) := by decide +kernel
theorem dX7_restore_16 : decode cX7_restore 16 = .ok (.iload_n 1, 1) := by decide +kernel
theorem dX7_restore_17 : decode cX7_restore 17 = .ok (.baload, 1) := by decide +kernel
theorem dX7_restore_18 : decode cX7_restore 18 = .ok (.ifCond .ne 6, 3) := by decide +kernel
theorem dX7_restore_21 : decode cX7_restore 21 = .ok (.bipush (-3), 2) := by decide +kernel
theorem dX7_restore_23 : decode cX7_restore 23 = .ok (.ireturn, 1) := by decide +kernel
theorem dX7_restore_24 : decode cX7_restore 24 = .ok (.bipush 92, 2) := by decide +kernel
theorem dX7_restore_26 : decode cX7_restore 26 = .ok (.iload_n 1, 1) := by decide +kernel
theorem dX7_restore_27 : decode cX7_restore 27 = .ok (.imul, 1) := by decide +kernel
theorem dX7_restore_28 : decode cX7_restore 28 = .ok (.istore_n 2, 1) := by decide +kernel
theorem dX7_restore_29 : decode cX7_restore 29 = .ok (.iconst 0, 1) := by decide +kernel
theorem dX7_restore_30 : decode cX7_restore 30 = .ok (.istore_n 3, 1) := by decide +kernel
theorem dX7_restore_31 : decode cX7_restore 31 = .ok (.iload_n 3, 1) := by decide +kernel
theorem dX7_restore_32 : decode cX7_restore 32 = .ok (.bipush 6, 2) := by decide +kernel
theorem dX7_restore_34 : decode cX7_restore 34 = .ok (.if_icmp .ge 57, 3) := by decide +kernel
theorem dX7_restore_37 : decode cX7_restore 37 = .ok (.aload_n 0, 1) := by decide +kernel
theorem dX7_restore_38 : decode cX7_restore 38 = .ok (.getfield 13, 3) := by decide +kernel
theorem dX7_restore_41 : decode cX7_restore 41 = .ok (.iload_n 3, 1) := by decide +kernel
theorem dX7_restore_42 : decode cX7_restore 42 = .ok (.aload_n 0, 1) := by decide +kernel
theorem dX7_restore_43 : decode cX7_restore 43 = .ok (.getfield 51, 3) := by decide +kernel
theorem dX7_restore_46 : decode cX7_restore 46 = .ok (.iload_n 2, 1) := by decide +kernel
theorem dX7_restore_47 : decode cX7_restore 47 = .ok (.iload_n 3, 1) := by decide +kernel
theorem dX7_restore_48 : decode cX7_restore 48 = .ok (.iadd, 1) := by decide +kernel
theorem dX7_restore_49 : decode cX7_restore 49 = .ok (.iaload, 1) := by decide +kernel
theorem dX7_restore_50 : decode cX7_restore 50 = .ok (.iastore, 1) := by decide +kernel
theorem dX7_restore_51 : decode cX7_restore 51 = .ok (.aload_n 0, 1) := by decide +kernel
theorem dX7_restore_52 : decode cX7_restore 52 = .ok (.getfield 16, 3) := by decide +kernel
theorem dX7_restore_55 : decode cX7_restore 55 = .ok (.iload_n 3, 1) := by decide +kernel
theorem dX7_restore_56 : decode cX7_restore 56 = .ok (.aload_n 0, 1) := by decide +kernel
theorem dX7_restore_57 : decode cX7_restore 57 = .ok (.getfield 51, 3) := by decide +kernel
theorem dX7_restore_60 : decode cX7_restore 60 = .ok (.iload_n 2, 1) := by decide +kernel
theorem dX7_restore_61 : decode cX7_restore 61 = .ok (.bipush 6, 2) := by decide +kernel
theorem dX7_restore_63 : decode cX7_restore 63 = .ok (.iadd, 1) := by decide +kernel
theorem dX7_restore_64 : decode cX7_restore 64 = .ok (.iload_n 3, 1) := by decide +kernel
theorem dX7_restore_65 : decode cX7_restore 65 = .ok (.iadd, 1) := by decide +kernel
theorem dX7_restore_66 : decode cX7_restore 66 = .ok (.iaload, 1) := by decide +kernel
theorem dX7_restore_67 : decode cX7_restore 67 = .ok (.iastore, 1) := by decide +kernel
theorem dX7_restore_68 : decode cX7_restore 68 = .ok (.aload_n 0, 1) := by decide +kernel
theorem dX7_restore_69 : decode cX7_restore 69 = .ok (.getfield 19, 3) := by decide +kernel
theorem dX7_restore_72 : decode cX7_restore 72 = .ok (.iload_n 3, 1) := by decide +kernel
theorem dX7_restore_73 : decode cX7_restore 73 = .ok (.aload_n 0, 1) := by decide +kernel
theorem dX7_restore_74 : decode cX7_restore 74 = .ok (.getfield 51, 3) := by decide +kernel
theorem dX7_restore_77 : decode cX7_restore 77 = .ok (.iload_n 2, 1) := by decide +kernel
theorem dX7_restore_78 : decode cX7_restore 78 = .ok (.bipush 12, 2) := by decide +kernel
theorem dX7_restore_80 : decode cX7_restore 80 = .ok (.iadd, 1) := by decide +kernel
theorem dX7_restore_81 : decode cX7_restore 81 = .ok (.iload_n 3, 1) := by decide +kernel
theorem dX7_restore_82 : decode cX7_restore 82 = .ok (.iadd, 1) := by decide +kernel
theorem dX7_restore_83 : decode cX7_restore 83 = .ok (.iaload, 1) := by decide +kernel
theorem dX7_restore_84 : decode cX7_restore 84 = .ok (.iastore, 1) := by decide +kernel
theorem dX7_restore_85 : decode cX7_restore 85 = .ok (.iinc 3 1, 3) := by decide +kernel
theorem dX7_restore_88 : decode cX7_restore 88 = .ok (.goto (-57), 3) := by decide +kernel
theorem dX7_restore_91 : decode cX7_restore 91 = .ok (.iconst 0, 1) := by decide +kernel
theorem dX7_restore_92 : decode cX7_restore 92 = .ok (.istore_n 3, 1) := by decide +kernel
theorem dX7_restore_93 : decode cX7_restore 93 = .ok (.iload_n 3, 1) := by decide +kernel
theorem dX7_restore_94 : decode cX7_restore 94 = .ok (.bipush 60, 2) := by decide +kernel
theorem dX7_restore_96 : decode cX7_restore 96 = .ok (.if_icmp .ge 26, 3) := by decide +kernel
theorem dX7_restore_99 : decode cX7_restore 99 = .ok (.aload_n 0, 1) := by decide +kernel
theorem dX7_restore_100 : decode cX7_restore 100 = .ok (.getfield 22, 3) := by decide +kernel
theorem dX7_restore_103 : decode cX7_restore 103 = .ok (.iload_n 3, 1) := by decide +kernel
theorem dX7_restore_104 : decode cX7_restore 104 = .ok (.aload_n 0, 1) := by decide +kernel
theorem dX7_restore_105 : decode cX7_restore 105 = .ok (.getfield 51, 3) := by decide +kernel
theorem dX7_restore_108 : decode cX7_restore 108 = .ok (.iload_n 2, 1) := by decide +kernel
theorem dX7_restore_109 : decode cX7_restore 109 = .ok (.bipush 18, 2) := by decide +kernel
theorem dX7_restore_111 : decode cX7_restore 111 = .ok (.iadd, 1) := by decide +kernel
theorem dX7_restore_112 : decode cX7_restore 112 = .ok (.iload_n 3, 1) := by decide +kernel
theorem dX7_restore_113 : decode cX7_restore 113 = .ok (.iadd, 1) := by decide +kernel
theorem dX7_restore_114 : decode cX7_restore 114 = .ok (.iaload, 1) := by decide +kernel
theorem dX7_restore_115 : decode cX7_restore 115 = .ok (.iastore, 1) := by decide +kernel
theorem dX7_restore_116 : decode cX7_restore 116 = .ok (.iinc 3 1, 3) := by decide +kernel
theorem dX7_restore_119 : decode cX7_restore 119 = .ok (.goto (-26), 3) := by decide +kernel
theorem dX7_restore_122 : decode cX7_restore 122 = .ok (.aload_n 0, 1) := by decide +kernel
theorem dX7_restore_123 : decode cX7_restore 123 = .ok (.aload_n 0, 1) := by decide +kernel
theorem dX7_restore_124 : decode cX7_restore 124 = .ok (.getfield 51, 3) := by decide +kernel
theorem dX7_restore_127 : decode cX7_restore 127 = .ok (.iload_n 2, 1) := by decide +kernel
theorem dX7_restore_128 : decode cX7_restore 128 = .ok (.bipush 78, 2) := by decide +kernel
theorem dX7_restore_130 : decode cX7_restore 130 = .ok (.iadd, 1) := by decide +kernel
theorem dX7_restore_131 : decode cX7_restore 131 = .ok (.iaload, 1) := by decide +kernel
theorem dX7_restore_132 : decode cX7_restore 132 = .ok (.putfield 25, 3) := by decide +kernel
theorem dX7_restore_135 : decode cX7_restore 135 = .ok (.aload_n 0, 1) := by decide +kernel
theorem dX7_restore_136 : decode cX7_restore 136 = .ok (.aload_n 0, 1) := by decide +kernel
theorem dX7_restore_137 : decode cX7_restore 137 = .ok (.getfield 51, 3) := by decide +kernel
theorem dX7_restore_140 : decode cX7_restore 140 = .ok (.iload_n 2, 1) := by decide +kernel
theorem dX7_restore_141 : decode cX7_restore 141 = .ok (.bipush 79, 2) := by decide +kernel
theorem dX7_restore_143 : decode cX7_restore 143 = .ok (.iadd, 1) := by decide +kernel
theorem dX7_restore_144 : decode cX7_restore 144 = .ok (.iaload, 1) := by decide +kernel
theorem dX7_restore_145 : decode cX7_restore 145 = .ok (.putfield 29, 3) := by decide +kernel
theorem dX7_restore_148 : decode cX7_restore 148 = .ok (.iconst 0, 1) := by decide +kernel
theorem dX7_restore_149 : decode cX7_restore 149 = .ok (.istore_n 3, 1) := by decide +kernel
theorem dX7_restore_150 : decode cX7_restore 150 = .ok (.iload_n 3, 1) := by decide +kernel
theorem dX7_restore_151 : decode cX7_restore 151 = .ok (.bipush 11, 2) := by decide +kernel
theorem dX7_restore_153 : decode cX7_restore 153 = .ok (.if_icmp .ge 26, 3) := by decide +kernel
theorem dX7_restore_156 : decode cX7_restore 156 = .ok (.aload_n 0, 1) := by decide +kernel
theorem dX7_restore_157 : decode cX7_restore 157 = .ok (.getfield 32, 3) := by decide +kernel
theorem dX7_restore_160 : decode cX7_restore 160 = .ok (.iload_n 3, 1) := by decide +kernel
theorem dX7_restore_161 : decode cX7_restore 161 = .ok (.aload_n 0, 1) := by decide +kernel
theorem dX7_restore_162 : decode cX7_restore 162 = .ok (.getfield 51, 3) := by decide +kernel
theorem dX7_restore_165 : decode cX7_restore 165 = .ok (.iload_n 2, 1) := by decide +kernel
theorem dX7_restore_166 : decode cX7_restore 166 = .ok (.bipush 80, 2) := by decide +kernel
theorem dX7_restore_168 : decode cX7_restore 168 = .ok (.iadd, 1) := by decide +kernel
theorem dX7_restore_169 : decode cX7_restore 169 = .ok (.iload_n 3, 1) := by decide +kernel
theorem dX7_restore_170 : decode cX7_restore 170 = .ok (.iadd, 1) := by decide +kernel
theorem dX7_restore_171 : decode cX7_restore 171 = .ok (.iaload, 1) := by decide +kernel
theorem dX7_restore_172 : decode cX7_restore 172 = .ok (.iastore, 1) := by decide +kernel
theorem dX7_restore_173 : decode cX7_restore 173 = .ok (.iinc 3 1, 3) := by decide +kernel
theorem dX7_restore_176 : decode cX7_restore 176 = .ok (.goto (-26), 3) := by decide +kernel
theorem dX7_restore_179 : decode cX7_restore 179 = .ok (.iconst 1, 1) := by decide +kernel
theorem dX7_restore_180 : decode cX7_restore 180 = .ok (.ireturn, 1) := by decide +kernel
theorem dX7_told_0 : decode cX7_told 0 = .ok (.iload_n 1, 1) := by decide +kernel
theorem dX7_told_1 : decode cX7_told 1 = .ok (.bipush 10, 2) := by decide +kernel
theorem dX7_told_3 : decode cX7_told 3 = .ok (.bipush 15, 2) := by decide +kernel
theorem dX7_told_5 : decode cX7_told 5 = .ok (.invokestatic 58, 3) := by decide +kernel
theorem dX7_told_8 : decode cX7_told 8 = .ok (.ifCond .eq 13, 3) := by decide +kernel
theorem dX7_told_11 : decode cX7_told 11 = .ok (.aload_n 0, 1) := by decide +kernel
theorem dX7_told_12 : decode cX7_told 12 = .ok (.getfield 13, 3) := by decide +kernel
theorem dX7_told_15 : decode cX7_told 15 = .ok (.iload_n 1, 1) := by decide +kernel
theorem dX7_told_16 : decode cX7_told 16 = .ok (.bipush 10, 2) := by decide +kernel
theorem dX7_told_18 : decode cX7_told 18 = .ok (.isub, 1) := by decide +kernel
theorem dX7_told_19 : decode cX7_told 19 = .ok (.iaload, 1) := by decide +kernel
theorem dX7_told_20 : decode cX7_told 20 = .ok (.ireturn, 1) := by decide +kernel
theorem dX7_told_21 : decode cX7_told 21 = .ok (.iload_n 1, 1) := by decide +kernel
theorem dX7_told_22 : decode cX7_told 22 = .ok (.bipush 20, 2) := by decide +kernel
theorem dX7_told_24 : decode cX7_told 24 = .ok (.bipush 25, 2) := by decide +kernel
theorem dX7_told_26 : decode cX7_told 26 = .ok (.invokestatic 58, 3) := by decide +kernel
theorem dX7_told_29 : decode cX7_told 29 = .ok (.ifCond .eq 13, 3) := by decide +kernel
theorem dX7_told_32 : decode cX7_told 32 = .ok (.aload_n 0, 1) := by decide +kernel
theorem dX7_told_33 : decode cX7_told 33 = .ok (.getfield 19, 3) := by decide +kernel
theorem dX7_told_36 : decode cX7_told 36 = .ok (.iload_n 1, 1) := by decide +kernel
theorem dX7_told_37 : decode cX7_told 37 = .ok (.bipush 20, 2) := by decide +kernel
theorem dX7_told_39 : decode cX7_told 39 = .ok (.isub, 1) := by decide +kernel
theorem dX7_told_40 : decode cX7_told 40 = .ok (.iaload, 1) := by decide +kernel
theorem dX7_told_41 : decode cX7_told 41 = .ok (.ireturn, 1) := by decide +kernel
theorem dX7_told_42 : decode cX7_told 42 = .ok (.iload_n 1, 1) := by decide +kernel
theorem dX7_told_43 : decode cX7_told 43 = .ok (.ifCond .ne 10, 3) := by decide +kernel
theorem dX7_told_46 : decode cX7_told 46 = .ok (.aload_n 0, 1) := by decide +kernel
theorem dX7_told_47 : decode cX7_told 47 = .ok (.getfield 66, 3) := by decide +kernel
theorem dX7_told_50 : decode cX7_told 50 = .ok (.goto 46, 3) := by decide +kernel
theorem dX7_told_53 : decode cX7_told 53 = .ok (.iload_n 1, 1) := by decide +kernel
theorem dX7_told_54 : decode cX7_told 54 = .ok (.iconst 1, 1) := by decide +kernel
theorem dX7_told_55 : decode cX7_told 55 = .ok (.if_icmp .ne 10, 3) := by decide +kernel
theorem dX7_told_58 : decode cX7_told 58 = .ok (.aload_n 0, 1) := by decide +kernel
theorem dX7_told_59 : decode cX7_told 59 = .ok (.getfield 25, 3) := by decide +kernel
theorem dX7_told_62 : decode cX7_told 62 = .ok (.goto 34, 3) := by decide +kernel
theorem dX7_told_65 : decode cX7_told 65 = .ok (.iload_n 1, 1) := by decide +kernel
theorem dX7_told_66 : decode cX7_told 66 = .ok (.iconst 2, 1) := by decide +kernel
theorem dX7_told_67 : decode cX7_told 67 = .ok (.if_icmp .ne 10, 3) := by decide +kernel
theorem dX7_told_70 : decode cX7_told 70 = .ok (.aload_n 0, 1) := by decide +kernel
theorem dX7_told_71 : decode cX7_told 71 = .ok (.getfield 29, 3) := by decide +kernel
theorem dX7_told_74 : decode cX7_told 74 = .ok (.goto 22, 3) := by decide +kernel
theorem dX7_told_77 : decode cX7_told 77 = .ok (.iload_n 1, 1) := by decide +kernel
theorem dX7_told_78 : decode cX7_told 78 = .ok (.iconst 3, 1) := by decide +kernel
theorem dX7_told_79 : decode cX7_told 79 = .ok (.if_icmp .ne 15, 3) := by decide +kernel
theorem dX7_told_82 : decode cX7_told 82 = .ok (.bipush 63, 2) := by decide +kernel
theorem dX7_told_84 : decode cX7_told 84 = .ok (.aload_n 0, 1) := by decide +kernel
theorem dX7_told_85 : decode cX7_told 85 = .ok (.invokevirtual 108, 3) := by decide +kernel
theorem dX7_told_88 : decode cX7_told 88 = .ok (.iconst (-1), 1) := by decide +kernel
theorem dX7_told_89 : decode cX7_told 89 = .ok (.ixor, 1) := by decide +kernel
theorem dX7_told_90 : decode cX7_told 90 = .ok (.iand, 1) := by decide +kernel
theorem dX7_told_91 : decode cX7_told 91 = .ok (.goto 5, 3) := by decide +kernel
theorem dX7_told_94 : decode cX7_told 94 = .ok (.bipush (-2), 2) := by decide +kernel
theorem dX7_told_96 : decode cX7_told 96 = .ok (.ireturn, 1) := by decide +kernel
theorem dJ6_bitCount_0f7a4_0 : decode cJ6_bitCount_0f7a4 0 = .ok (.iload_n 0, 1) := by decide +kernel
theorem dJ6_bitCount_0f7a4_1 : decode cJ6_bitCount_0f7a4 1 = .ok (.iload_n 0, 1) := by decide +kernel
theorem dJ6_bitCount_0f7a4_2 : decode cJ6_bitCount_0f7a4 2 = .ok (.iconst 1, 1) := by decide +kernel
theorem dJ6_bitCount_0f7a4_3 : decode cJ6_bitCount_0f7a4 3 = .ok (.iushr, 1) := by decide +kernel
theorem dJ6_bitCount_0f7a4_4 : decode cJ6_bitCount_0f7a4 4 = .ok (.ldc_w 265, 3) := by decide +kernel
theorem dJ6_bitCount_0f7a4_7 : decode cJ6_bitCount_0f7a4 7 = .ok (.iand, 1) := by decide +kernel
theorem dJ6_bitCount_0f7a4_8 : decode cJ6_bitCount_0f7a4 8 = .ok (.isub, 1) := by decide +kernel
theorem dJ6_bitCount_0f7a4_9 : decode cJ6_bitCount_0f7a4 9 = .ok (.istore_n 0, 1) := by decide +kernel
theorem dJ6_bitCount_0f7a4_10 : decode cJ6_bitCount_0f7a4 10 = .ok (.iload_n 0, 1) := by decide +kernel
theorem dJ6_bitCount_0f7a4_11 : decode cJ6_bitCount_0f7a4 11 = .ok (.ldc_w 266, 3) := by decide +kernel
theorem dJ6_bitCount_0f7a4_14 : decode cJ6_bitCount_0f7a4 14 = .ok (.iand, 1) := by decide +kernel
theorem dJ6_bitCount_0f7a4_15 : decode cJ6_bitCount_0f7a4 15 = .ok (.iload_n 0, 1) := by decide +kernel
theorem dJ6_bitCount_0f7a4_16 : decode cJ6_bitCount_0f7a4 16 = .ok (.iconst 2, 1) := by decide +kernel
theorem dJ6_bitCount_0f7a4_17 : decode cJ6_bitCount_0f7a4 17 = .ok (.iushr, 1) := by decide +kernel
theorem dJ6_bitCount_0f7a4_18 : decode cJ6_bitCount_0f7a4 18 = .ok (.ldc_w 266, 3) := by decide +kernel
theorem dJ6_bitCount_0f7a4_21 : decode cJ6_bitCount_0f7a4 21 = .ok (.iand, 1) := by decide +kernel
theorem dJ6_bitCount_0f7a4_22 : decode cJ6_bitCount_0f7a4 22 = .ok (.iadd, 1) := by decide +kernel
theorem dJ6_bitCount_0f7a4_23 : decode cJ6_bitCount_0f7a4 23 = .ok (.istore_n 0, 1) := by decide +kernel
theorem dJ6_bitCount_0f7a4_24 : decode cJ6_bitCount_0f7a4 24 = .ok (.iload_n 0, 1) := by decide +kernel
theorem dJ6_bitCount_0f7a4_25 : decode cJ6_bitCount_0f7a4 25 = .ok (.iload_n 0, 1) := by decide +kernel
theorem dJ6_bitCount_0f7a4_26 : decode cJ6_bitCount_0f7a4 26 = .ok (.iconst 4, 1) := by decide +kernel
theorem dJ6_bitCount_0f7a4_27 : decode cJ6_bitCount_0f7a4 27 = .ok (.iushr, 1) := by decide +kernel
theorem dJ6_bitCount_0f7a4_28 : decode cJ6_bitCount_0f7a4 28 = .ok (.iadd, 1) := by decide +kernel
theorem dJ6_bitCount_0f7a4_29 : decode cJ6_bitCount_0f7a4 29 = .ok (.ldc_w 267, 3) := by decide +kernel
theorem dJ6_bitCount_0f7a4_32 : decode cJ6_bitCount_0f7a4 32 = .ok (.iand, 1) := by decide +kernel
theorem dJ6_bitCount_0f7a4_33 : decode cJ6_bitCount_0f7a4 33 = .ok (.istore_n 0, 1) := by decide +kernel
theorem dJ6_bitCount_0f7a4_34 : decode cJ6_bitCount_0f7a4 34 = .ok (.iload_n 0, 1) := by decide +kernel
theorem dJ6_bitCount_0f7a4_35 : decode cJ6_bitCount_0f7a4 35 = .ok (.iload_n 0, 1) := by decide +kernel
theorem dJ6_bitCount_0f7a4_36 : decode cJ6_bitCount_0f7a4 36 = .ok (.bipush 8, 2) := by decide +kernel
theorem dJ6_bitCount_0f7a4_38 : decode cJ6_bitCount_0f7a4 38 = .ok (.iushr, 1) := by decide +kernel
theorem dJ6_bitCount_0f7a4_39 : decode cJ6_bitCount_0f7a4 39 = .ok (.iadd, 1) := by decide +kernel
theorem dJ6_bitCount_0f7a4_40 : decode cJ6_bitCount_0f7a4 40 = .ok (.istore_n 0, 1) := by decide +kernel
theorem dJ6_bitCount_0f7a4_41 : decode cJ6_bitCount_0f7a4 41 = .ok (.iload_n 0, 1) := by decide +kernel
theorem dJ6_bitCount_0f7a4_42 : decode cJ6_bitCount_0f7a4 42 = .ok (.iload_n 0, 1) := by decide +kernel
theorem dJ6_bitCount_0f7a4_43 : decode cJ6_bitCount_0f7a4 43 = .ok (.bipush 16, 2) := by decide +kernel
theorem dJ6_bitCount_0f7a4_45 : decode cJ6_bitCount_0f7a4 45 = .ok (.iushr, 1) := by decide +kernel
theorem dJ6_bitCount_0f7a4_46 : decode cJ6_bitCount_0f7a4 46 = .ok (.iadd, 1) := by decide +kernel
theorem dJ6_bitCount_0f7a4_47 : decode cJ6_bitCount_0f7a4 47 = .ok (.istore_n 0, 1) := by decide +kernel
theorem dJ6_bitCount_0f7a4_48 : decode cJ6_bitCount_0f7a4 48 = .ok (.iload_n 0, 1) := by decide +kernel
theorem dJ6_bitCount_0f7a4_49 : decode cJ6_bitCount_0f7a4 49 = .ok (.bipush 63, 2) := by decide +kernel
theorem dJ6_bitCount_0f7a4_51 : decode cJ6_bitCount_0f7a4 51 = .ok (.iand, 1) := by decide +kernel
theorem dJ6_bitCount_0f7a4_52 : decode cJ6_bitCount_0f7a4 52 = .ok (.ireturn, 1) := by decide +kernel
theorem dJ9_abs_067f4_0 : decode cJ9_abs_067f4 0 = .ok (.lload_n 0, 1) := by decide +kernel
theorem dJ9_abs_067f4_1 : decode cJ9_abs_067f4 1 = .ok (.lconst 0, 1) := by decide +kernel
theorem dJ9_abs_067f4_2 : decode cJ9_abs_067f4 2 = .ok (.lcmp, 1) := by decide +kernel
theorem dJ9_abs_067f4_3 : decode cJ9_abs_067f4 3 = .ok (.ifCond .ge 8, 3) := by decide +kernel
theorem dJ9_abs_067f4_6 : decode cJ9_abs_067f4 6 = .ok (.lload_n 0, 1) := by decide +kernel
theorem dJ9_abs_067f4_7 : decode cJ9_abs_067f4 7 = .ok (.lneg, 1) := by decide +kernel
theorem dJ9_abs_067f4_8 : decode cJ9_abs_067f4 8 = .ok (.goto 4, 3) := by decide +kernel
theorem dJ9_abs_067f4_11 : decode cJ9_abs_067f4 11 = .ok (.lload_n 0, 1) := by decide +kernel
theorem dJ9_abs_067f4_12 : decode cJ9_abs_067f4 12 = .ok (.lreturn, 1) := by decide +kernel
theorem dJ9_max_7cf53_0 : decode cJ9_max_7cf53 0 = .ok (.iload_n 0, 1) := by decide +kernel
theorem dJ9_max_7cf53_1 : decode cJ9_max_7cf53 1 = .ok (.iload_n 1, 1) := by decide +kernel
theorem dJ9_max_7cf53_2 : decode cJ9_max_7cf53 2 = .ok (.if_icmp .lt 7, 3) := by decide +kernel
theorem dJ9_max_7cf53_5 : decode cJ9_max_7cf53 5 = .ok (.iload_n 0, 1) := by decide +kernel
theorem dJ9_max_7cf53_6 : decode cJ9_max_7cf53 6 = .ok (.goto 4, 3) := by decide +kernel
theorem dJ9_max_7cf53_9 : decode cJ9_max_7cf53 9 = .ok (.iload_n 1, 1) := by decide +kernel
theorem dJ9_max_7cf53_10 : decode cJ9_max_7cf53 10 = .ok (.ireturn, 1) := by decide +kernel
theorem dJ9_min_7cf53_0 : decode cJ9_min_7cf53 0 = .ok (.iload_n 0, 1) := by decide +kernel
theorem dJ9_min_7cf53_1 : decode cJ9_min_7cf53 1 = .ok (.iload_n 1, 1) := by decide +kernel
theorem dJ9_min_7cf53_2 : decode cJ9_min_7cf53 2 = .ok (.if_icmp .gt 7, 3) := by decide +kernel
theorem dJ9_min_7cf53_5 : decode cJ9_min_7cf53 5 = .ok (.iload_n 0, 1) := by decide +kernel
theorem dJ9_min_7cf53_6 : decode cJ9_min_7cf53 6 = .ok (.goto 4, 3) := by decide +kernel
theorem dJ9_min_7cf53_9 : decode cJ9_min_7cf53 9 = .ok (.iload_n 1, 1) := by decide +kernel
theorem dJ9_min_7cf53_10 : decode cJ9_min_7cf53 10 = .ok (.ireturn, 1) := by decide +kernel
theorem dJ9_min_f86c9_0 : decode cJ9_min_f86c9 0 = .ok (.lload_n 0, 1) := by decide +kernel
theorem dJ9_min_f86c9_1 : decode cJ9_min_f86c9 1 = .ok (.lload_n 2, 1) := by decide +kernel
theorem dJ9_min_f86c9_2 : decode cJ9_min_f86c9 2 = .ok (.lcmp, 1) := by decide +kernel
theorem dJ9_min_f86c9_3 : decode cJ9_min_f86c9 3 = .ok (.ifCond .gt 7, 3) := by decide +kernel
theorem dJ9_min_f86c9_6 : decode cJ9_min_f86c9 6 = .ok (.lload_n 0, 1) := by decide +kernel
theorem dJ9_min_f86c9_7 : decode cJ9_min_f86c9 7 = .ok (.goto 4, 3) := by decide +kernel
theorem dJ9_min_f86c9_10 : decode cJ9_min_f86c9 10 = .ok (.lload_n 2, 1) := by decide +kernel
theorem dJ9_min_f86c9_11 : decode cJ9_min_f86c9 11 = .ok (.lreturn, 1) := by decide +kernel
theorem dJ0_length_8abf5_0 : decode cJ0_length_8abf5 0 = .ok (.aload_n 0, 1) := by decide +kernel
theorem dJ0_length_8abf5_1 : decode cJ0_length_8abf5 1 = .ok (.getfield 9, 3) := by decide +kernel
theorem dJ0_length_8abf5_4 : decode cJ0_length_8abf5 4 = .ok (.arraylength, 1) := by decide +kernel
theorem dJ0_length_8abf5_5 : decode cJ0_length_8abf5 5 = .ok (.aload_n 0, 1) := by decide +kernel
theorem dJ0_length_8abf5_6 : decode cJ0_length_8abf5 6 = .ok (.invokevirtual 335, 3) := by decide +kernel
theorem dJ0_length_8abf5_9 : decode cJ0_length_8abf5 9 = .ok (.ishr, 1) := by decide +kernel
theorem dJ0_length_8abf5_10 : decode cJ0_length_8abf5 10 = .ok (.ireturn, 1) := by decide +kernel
theorem dJ0_charAt_5068e_0 : decode cJ0_charAt_5068e 0 = .ok (.aload_n 0, 1) := by decide +kernel
theorem dJ0_charAt_5068e_1 : decode cJ0_charAt_5068e 1 = .ok (.invokevirtual 492, 3) := by decide +kernel
theorem dJ0_charAt_5068e_4 : decode cJ0_charAt_5068e 4 = .ok (.ifCond .eq 12, 3) := by decide +kernel
theorem dJ0_charAt_5068e_7 : decode cJ0_charAt_5068e 7 = .ok (.aload_n 0, 1) := by decide +kernel
theorem dJ0_charAt_5068e_8 : decode cJ0_charAt_5068e 8 = .ok (.getfield 9, 3) := by decide +kernel
theorem dJ0_charAt_5068e_11 : decode cJ0_charAt_5068e 11 = .ok (.iload_n 1, 1) := by decide +kernel
theorem dJ0_charAt_5068e_12 : decode cJ0_charAt_5068e 12 = .ok (.invokestatic 495, 3) := by decide +kernel
theorem dJ0_charAt_5068e_15 : decode cJ0_charAt_5068e 15 = .ok (.ireturn, 1) := by decide +kernel
theorem dJ0_charAt_5068e_16 : decode cJ0_charAt_5068e 16 = .ok (.aload_n 0, 1) := by decide +kernel
theorem dJ0_charAt_5068e_17 : decode cJ0_charAt_5068e 17 = .ok (.getfield 9, 3) := by decide +kernel
theorem dJ0_charAt_5068e_20 : decode cJ0_charAt_5068e 20 = .ok (.iload_n 1, 1) := by decide +kernel
theorem dJ0_charAt_5068e_21 : decode cJ0_charAt_5068e 21 = .ok (.invokestatic 498, 3) := by decide +kernel
theorem dJ0_charAt_5068e_24 : decode cJ0_charAt_5068e 24 = .ok (.ireturn, 1) := by decide +kernel
theorem dJ0_coder_7d493_0 : decode cJ0_coder_7d493 0 = .ok (.getstatic 38, 3) := by decide +kernel
theorem dJ0_coder_7d493_3 : decode cJ0_coder_7d493 3 = .ok (.ifCond .eq 10, 3) := by decide +kernel
theorem dJ0_coder_7d493_6 : decode cJ0_coder_7d493 6 = .ok (.aload_n 0, 1) := by decide +kernel
theorem dJ0_coder_7d493_7 : decode cJ0_coder_7d493 7 = .ok (.getfield 15, 3) := by decide +kernel
theorem dJ0_coder_7d493_10 : decode cJ0_coder_7d493 10 = .ok (.goto 4, 3) := by decide +kernel
theorem dJ0_coder_7d493_13 : decode cJ0_coder_7d493 13 = .ok (.iconst 1, 1) := by decide +kernel
theorem dJ0_coder_7d493_14 : decode cJ0_coder_7d493 14 = .ok (.ireturn, 1) := by decide +kernel
theorem dJ0_isLatin1_aae02_0 : decode cJ0_isLatin1_aae02 0 = .ok (.getstatic 38, 3) := by decide +kernel
theorem dJ0_isLatin1_aae02_3 : decode cJ0_isLatin1_aae02 3 = .ok (.ifCond .eq 14, 3) := by decide +kernel
theorem dJ0_isLatin1_aae02_6 : decode cJ0_isLatin1_aae02 6 = .ok (.aload_n 0, 1) := by decide +kernel
theorem dJ0_isLatin1_aae02_7 : decode cJ0_isLatin1_aae02 7 = .ok (.getfield 15, 3) := by decide +kernel
theorem dJ0_isLatin1_aae02_10 : decode cJ0_isLatin1_aae02 10 = .ok (.ifCond .ne 7, 3) := by decide +kernel
theorem dJ0_isLatin1_aae02_13 : decode cJ0_isLatin1_aae02 13 = .ok (.iconst 1, 1) := by decide +kernel
theorem dJ0_isLatin1_aae02_14 : decode cJ0_isLatin1_aae02 14 = .ok (.goto 4, 3) := by decide +kernel
theorem dJ0_isLatin1_aae02_17 : decode cJ0_isLatin1_aae02 17 = .ok (.iconst 0, 1) := by decide +kernel
theorem dJ0_isLatin1_aae02_18 : decode cJ0_isLatin1_aae02 18 = .ok (.ireturn, 1) := by decide +kernel
theorem dJ0_checkIndex_df160_0 : decode cJ0_checkIndex_df160 0 = .ok (.iload_n 0, 1) := by decide +kernel
theorem dJ0_checkIndex_df160_1 : decode cJ0_checkIndex_df160 1 = .ok (.iload_n 1, 1) := by decide +kernel
theorem dJ0_checkIndex_df160_2 : decode cJ0_checkIndex_df160 2 = .ok (.getstatic 1053, 3) := by decide +kernel
theorem dJ0_checkIndex_df160_5 : decode cJ0_checkIndex_df160 5 = .ok (.invokestatic 1059, 3) := by decide +kernel
theorem dJ0_checkIndex_df160_8 : decode cJ0_checkIndex_df160 8 = .ok (.pop, 1) := by decide +kernel
theorem dJ0_checkIndex_df160_9 : decode cJ0_checkIndex_df160 9 = .ok (.return_, 1) := by decide +kernel
theorem dJ1_charAt_3b067_0 : decode cJ1_charAt_3b067 0 = .ok (.iload_n 1, 1) := by decide +kernel
theorem dJ1_charAt_3b067_1 : decode cJ1_charAt_3b067 1 = .ok (.aload_n 0, 1) := by decide +kernel
theorem dJ1_charAt_3b067_2 : decode cJ1_charAt_3b067 2 = .ok (.arraylength, 1) := by decide +kernel
theorem dJ1_charAt_3b067_3 : decode cJ1_charAt_3b067 3 = .ok (.invokestatic 9, 3) := by decide +kernel
theorem dJ1_charAt_3b067_6 : decode cJ1_charAt_3b067 6 = .ok (.aload_n 0, 1) := by decide +kernel
theorem dJ1_charAt_3b067_7 : decode cJ1_charAt_3b067 7 = .ok (.iload_n 1, 1) := by decide +kernel
theorem dJ1_charAt_3b067_8 : decode cJ1_charAt_3b067 8 = .ok (.baload, 1) := by decide +kernel
theorem dJ1_charAt_3b067_9 : decode cJ1_charAt_3b067 9 = .ok (.sipush 255, 3) := by decide +kernel
theorem dJ1_charAt_3b067_12 : decode cJ1_charAt_3b067 12 = .ok (.iand, 1) := by decide +kernel
theorem dJ1_charAt_3b067_13 : decode cJ1_charAt_3b067 13 = .ok (.i2c, 1) := by decide +kernel
theorem dJ1_charAt_3b067_14 : decode cJ1_charAt_3b067 14 = .ok (.ireturn, 1) := by decide +kernel
theorem dJ2_getChar_3b067_0 : decode cJ2_getChar_3b067 0 = .ok (.getstatic 44, 3) := by decide +kernel
theorem dJ2_getChar_3b067_3 : decode cJ2_getChar_3b067 3 = .ok (.ifCond .ne 25, 3) := by decide +kernel
theorem dJ2_getChar_3b067_6 : decode cJ2_getChar_3b067 6 = .ok (.iload_n 1, 1) := by decide +kernel
theorem dJ2_getChar_3b067_7 : decode cJ2_getChar_3b067 7 = .ok (.ifCond .lt 11, 3) := by decide +kernel
theorem dJ2_getChar_3b067_10 : decode cJ2_getChar_3b067 10 = .ok (.iload_n 1, 1) := by decide +kernel
theorem dJ2_getChar_3b067_11 : decode cJ2_getChar_3b067 11 = .ok (.aload_n 0, 1) := by decide +kernel
theorem dJ2_getChar_3b067_12 : decode cJ2_getChar_3b067 12 = .ok (.invokestatic 48, 3) := by decide +kernel
theorem dJ2_getChar_3b067_15 : decode cJ2_getChar_3b067 15 = .ok (.if_icmp .lt 13, 3) := by decide +kernel
theorem dJ2_getChar_3b067_18 : decode cJ2_getChar_3b067 18 = .ok (.new 52, 3) := by decide +kernel
theorem dJ2_getChar_3b067_21 : decode cJ2_getChar_3b067 21 = .ok (.dup, 1) := by decide +kernel
theorem dJ2_getChar_3b067_22 : decode cJ2_getChar_3b067 22 = .ok (.ldc 54, 2) := by decide +kernel
theorem dJ2_getChar_3b067_24 : decode cJ2_getChar_3b067 24 = .ok (.invokespecial 56, 3) := by decide +kernel
theorem dJ2_getChar_3b067_27 : decode cJ2_getChar_3b067 27 = .ok (.athrow, 1) := by decide +kernel
theorem dJ2_getChar_3b067_28 : decode cJ2_getChar_3b067 28 = .ok (.iload_n 1, 1) := by decide +kernel
theorem dJ2_getChar_3b067_29 : decode cJ2_getChar_3b067 29 = .ok (.iconst 1, 1) := by decide +kernel
theorem dJ2_getChar_3b067_30 : decode cJ2_getChar_3b067 30 = .ok (.ishl, 1) := by decide +kernel
theorem dJ2_getChar_3b067_31 : decode cJ2_getChar_3b067 31 = .ok (.istore_n 1, 1) := by decide +kernel
theorem dJ2_getChar_3b067_32 : decode cJ2_getChar_3b067 32 = .ok (.aload_n 0, 1) := by decide +kernel
theorem dJ2_getChar_3b067_33 : decode cJ2_getChar_3b067 33 = .ok (.iload_n 1, 1) := by decide +kernel
theorem dJ2_getChar_3b067_34 : decode cJ2_getChar_3b067 34 = .ok (.iinc 1 1, 3) := by decide +kernel
theorem dJ2_getChar_3b067_37 : decode cJ2_getChar_3b067 37 = .ok (.baload, 1) := by decide +kernel
theorem dJ2_getChar_3b067_38 : decode cJ2_getChar_3b067 38 = .ok (.sipush 255, 3) := by decide +kernel
theorem dJ2_getChar_3b067_41 : decode cJ2_getChar_3b067 41 = .ok (.iand, 1) := by decide +kernel
theorem dJ2_getChar_3b067_42 : decode cJ2_getChar_3b067 42 = .ok (.getstatic 59, 3) := by decide +kernel
theorem dJ2_getChar_3b067_45 : decode cJ2_getChar_3b067 45 = .ok (.ishl, 1) := by decide +kernel
theorem dJ2_getChar_3b067_46 : decode cJ2_getChar_3b067 46 = .ok (.aload_n 0, 1) := by decide +kernel
theorem dJ2_getChar_3b067_47 : decode cJ2_getChar_3b067 47 = .ok (.iload_n 1, 1) := by decide +kernel
theorem dJ2_getChar_3b067_48 : decode cJ2_getChar_3b067 48 = .ok (.baload, 1) := by decide +kernel
theorem dJ2_getChar_3b067_49 : decode cJ2_getChar_3b067 49 = .ok (.sipush 255, 3) := by decide +kernel
theorem dJ2_getChar_3b067_52 : decode cJ2_getChar_3b067 52 = .ok (.iand, 1) := by decide +kernel
theorem dJ2_getChar_3b067_53 : decode cJ2_getChar_3b067 53 = .ok (.getstatic 63, 3) := by decide +kernel
theorem dJ2_getChar_3b067_56 : decode cJ2_getChar_3b067 56 = .ok (.ishl, 1) := by decide +kernel
theorem dJ2_getChar_3b067_57 : decode cJ2_getChar_3b067 57 = .ok (.ior, 1) := by decide +kernel
theorem dJ2_getChar_3b067_58 : decode cJ2_getChar_3b067 58 = .ok (.i2c, 1) := by decide +kernel
theorem dJ2_getChar_3b067_59 : decode cJ2_getChar_3b067 59 = .ok (.ireturn, 1) := by decide +kernel
theorem dJ2_length_9d52b_0 : decode cJ2_length_9d52b 0 = .ok (.aload_n 0, 1) := by decide +kernel
theorem dJ2_length_9d52b_1 : decode cJ2_length_9d52b 1 = .ok (.arraylength, 1) := by decide +kernel
theorem dJ2_length_9d52b_2 : decode cJ2_length_9d52b 2 = .ok (.iconst 1, 1) := by decide +kernel
theorem dJ2_length_9d52b_3 : decode cJ2_length_9d52b 3 = .ok (.ishr, 1) := by decide +kernel
theorem dJ2_length_9d52b_4 : decode cJ2_length_9d52b 4 = .ok (.ireturn, 1) := by decide +kernel
theorem dJ2_charAt_3b067_0 : decode cJ2_charAt_3b067 0 = .ok (.iload_n 1, 1) := by decide +kernel
theorem dJ2_charAt_3b067_1 : decode cJ2_charAt_3b067 1 = .ok (.aload_n 0, 1) := by decide +kernel
theorem dJ2_charAt_3b067_2 : decode cJ2_charAt_3b067 2 = .ok (.invokestatic 67, 3) := by decide +kernel
theorem dJ2_charAt_3b067_5 : decode cJ2_charAt_3b067 5 = .ok (.aload_n 0, 1) := by decide +kernel
theorem dJ2_charAt_3b067_6 : decode cJ2_charAt_3b067 6 = .ok (.iload_n 1, 1) := by decide +kernel
theorem dJ2_charAt_3b067_7 : decode cJ2_charAt_3b067 7 = .ok (.invokestatic 71, 3) := by decide +kernel
theorem dJ2_charAt_3b067_10 : decode cJ2_charAt_3b067 10 = .ok (.ireturn, 1) := by decide +kernel
theorem dJ2_checkIndex_2214a_0 : decode cJ2_checkIndex_2214a 0 = .ok (.iload_n 0, 1) := by decide +kernel
theorem dJ2_checkIndex_2214a_1 : decode cJ2_checkIndex_2214a 1 = .ok (.aload_n 1, 1) := by decide +kernel
theorem dJ2_checkIndex_2214a_2 : decode cJ2_checkIndex_2214a 2 = .ok (.invokestatic 48, 3) := by decide +kernel
theorem dJ2_checkIndex_2214a_5 : decode cJ2_checkIndex_2214a 5 = .ok (.invokestatic 414, 3) := by decide +kernel
theorem dJ2_checkIndex_2214a_8 : decode cJ2_checkIndex_2214a 8 = .ok (.return_, 1) := by decide +kernel
theorem dJ3_checkIndex_8e157_0 : decode cJ3_checkIndex_8e157 0 = .ok (.iload_n 0, 1) := by decide +kernel
theorem dJ3_checkIndex_8e157_1 : decode cJ3_checkIndex_8e157 1 = .ok (.ifCond .lt 8, 3) := by decide +kernel
theorem dJ3_checkIndex_8e157_4 : decode cJ3_checkIndex_8e157 4 = .ok (.iload_n 0, 1) := by decide +kernel
theorem dJ3_checkIndex_8e157_5 : decode cJ3_checkIndex_8e157 5 = .ok (.iload_n 1, 1) := by decide +kernel
theorem dJ3_checkIndex_8e157_6 : decode cJ3_checkIndex_8e157 6 = .ok (.if_icmp .lt 10, 3) := by decide +kernel
theorem dJ3_checkIndex_8e157_9 : decode cJ3_checkIndex_8e157 9 = .ok (.aload_n 2, 1) := by decide +kernel
theorem dJ3_checkIndex_8e157_10 : decode cJ3_checkIndex_8e157 10 = .ok (.iload_n 0, 1) := by decide +kernel
theorem dJ3_checkIndex_8e157_11 : decode cJ3_checkIndex_8e157 11 = .ok (.iload_n 1, 1) := by decide +kernel
theorem dJ3_checkIndex_8e157_12 : decode cJ3_checkIndex_8e157 12 = .ok (.invokestatic 95, 3) := by decide +kernel
theorem dJ3_checkIndex_8e157_15 : decode cJ3_checkIndex_8e157 15 = .ok (.athrow, 1) := by decide +kernel
theorem dJ3_checkIndex_8e157_16 : decode cJ3_checkIndex_8e157 16 = .ok (.iload_n 0, 1) := by decide +kernel
theorem dJ3_checkIndex_8e157_17 : decode cJ3_checkIndex_8e157 17 = .ok (.ireturn, 1) := by decide +kernel
theorem dL_law_0 : decode cL_law 0 = .ok (.new 7, 3) := by decide +kernel
theorem dL_law_3 : decode cL_law 3 = .ok (.dup, 1) := by decide +kernel
theorem dL_law_4 : decode cL_law 4 = .ok (.invokespecial 9, 3) := by decide +kernel
theorem dL_law_7 : decode cL_law 7 = .ok (.astore_n 1, 1) := by decide +kernel
theorem dL_law_8 : decode cL_law 8 = .ok (.new 10, 3) := by decide +kernel
theorem dL_law_11 : decode cL_law 11 = .ok (.dup, 1) := by decide +kernel
theorem dL_law_12 : decode cL_law 12 = .ok (.invokespecial 12, 3) := by decide +kernel
theorem dL_law_15 : decode cL_law 15 = .ok (.astore_n 2, 1) := by decide +kernel
theorem dL_law_16 : decode cL_law 16 = .ok (.iconst 0, 1) := by decide +kernel
theorem dL_law_17 : decode cL_law 17 = .ok (.istore_n 3, 1) := by decide +kernel
theorem dL_law_18 : decode cL_law 18 = .ok (.iload_n 3, 1) := by decide +kernel
theorem dL_law_19 : decode cL_law 19 = .ok (.aload_n 0, 1) := by decide +kernel
theorem dL_law_20 : decode cL_law 20 = .ok (.arraylength, 1) := by decide +kernel
theorem dL_law_21 : decode cL_law 21 = .ok (.bipush 6, 2) := by decide +kernel
theorem dL_law_23 : decode cL_law 23 = .ok (.isub, 1) := by decide +kernel
theorem dL_law_24 : decode cL_law 24 = .ok (.if_icmp .gt 984, 3) := by decide +kernel
theorem dL_law_27 : decode cL_law 27 = .ok (.aload_n 0, 1) := by decide +kernel
theorem dL_law_28 : decode cL_law 28 = .ok (.iload_n 3, 1) := by decide +kernel
theorem dL_law_29 : decode cL_law 29 = .ok (.iaload, 1) := by decide +kernel
theorem dL_law_30 : decode cL_law 30 = .ok (.bipush 31, 2) := by decide +kernel
theorem dL_law_32 : decode cL_law 32 = .ok (.iand, 1) := by decide +kernel
theorem dL_law_33 : decode cL_law 33 = .ok (.tableswitch 969 0 27 #[127, 150, 163, 186, 209, 252, 285, 308, 331, 344, 408, 442, 476, 510, 533, 587, 620, 654, 667, 701, 744, 788, 811, 824, 857, 900, 923, 946], 127) := by decide +kernel
theorem dL_law_160 : decode cL_law 160 = .ok (.aload_n 1, 1) := by decide +kernel
theorem dL_law_161 : decode cL_law 161 = .ok (.aload_n 0, 1) := by decide +kernel
theorem dL_law_162 : decode cL_law 162 = .ok (.iload_n 3, 1) := by decide +kernel
theorem dL_law_163 : decode cL_law 163 = .ok (.iconst 1, 1) := by decide +kernel
theorem dL_law_164 : decode cL_law 164 = .ok (.iadd, 1) := by decide +kernel
theorem dL_law_165 : decode cL_law 165 = .ok (.iaload, 1) := by decide +kernel
theorem dL_law_166 : decode cL_law 166 = .ok (.invokevirtual 13, 3) := by decide +kernel
theorem dL_law_169 : decode cL_law 169 = .ok (.aload_n 2, 1) := by decide +kernel
theorem dL_law_170 : decode cL_law 170 = .ok (.aload_n 0, 1) := by decide +kernel
theorem dL_law_171 : decode cL_law 171 = .ok (.iload_n 3, 1) := by decide +kernel
theorem dL_law_172 : decode cL_law 172 = .ok (.iconst 1, 1) := by decide +kernel
theorem dL_law_173 : decode cL_law 173 = .ok (.iadd, 1) := by decide +kernel
theorem dL_law_174 : decode cL_law 174 = .ok (.iaload, 1) := by decide +kernel
theorem dL_law_175 : decode cL_law 175 = .ok (.invokevirtual 17, 3) := by decide +kernel
theorem dL_law_178 : decode cL_law 178 = .ok (.if_icmp .eq 824, 3) := by decide +kernel
theorem dL_law_181 : decode cL_law 181 = .ok (.iconst 0, 1) := by decide +kernel
theorem dL_law_182 : decode cL_law 182 = .ok (.ireturn, 1) := by decide +kernel
theorem dL_law_183 : decode cL_law 183 = .ok (.aload_n 1, 1) := by decide +kernel
theorem dL_law_184 : decode cL_law 184 = .ok (.invokevirtual 18, 3) := by decide +kernel
theorem dL_law_187 : decode cL_law 187 = .ok (.aload_n 2, 1) := by decide +kernel
theorem dL_law_188 : decode cL_law 188 = .ok (.invokevirtual 22, 3) := by decide +kernel
theorem dL_law_191 : decode cL_law 191 = .ok (.if_icmp .eq 811, 3) := by decide +kernel
theorem dL_law_194 : decode cL_law 194 = .ok (.iconst 0, 1) := by decide +kernel
theorem dL_law_195 : decode cL_law 195 = .ok (.ireturn, 1) := by decide +kernel
theorem dL_law_196 : decode cL_law 196 = .ok (.aload_n 1, 1) := by decide +kernel
theorem dL_law_197 : decode cL_law 197 = .ok (.aload_n 0, 1) := by decide +kernel
theorem dL_law_198 : decode cL_law 198 = .ok (.iload_n 3, 1) := by decide +kernel
theorem dL_law_199 : decode cL_law 199 = .ok (.iconst 1, 1) := by decide +kernel
theorem dL_law_200 : decode cL_law 200 = .ok (.iadd, 1) := by decide +kernel
theorem dL_law_201 : decode cL_law 201 = .ok (.iaload, 1) := by decide +kernel
theorem dL_law_202 : decode cL_law 202 = .ok (.invokevirtual 23, 3) := by decide +kernel
theorem dL_law_205 : decode cL_law 205 = .ok (.aload_n 2, 1) := by decide +kernel
theorem dL_law_206 : decode cL_law 206 = .ok (.aload_n 0, 1) := by decide +kernel
theorem dL_law_207 : decode cL_law 207 = .ok (.iload_n 3, 1) := by decide +kernel
theorem dL_law_208 : decode cL_law 208 = .ok (.iconst 1, 1) := by decide +kernel
theorem dL_law_209 : decode cL_law 209 = .ok (.iadd, 1) := by decide +kernel
theorem dL_law_210 : decode cL_law 210 = .ok (.iaload, 1) := by decide +kernel
theorem dL_law_211 : decode cL_law 211 = .ok (.invokevirtual 26, 3) := by decide +kernel
theorem dL_law_214 : decode cL_law 214 = .ok (.if_icmp .eq 788, 3) := by decide +kernel
theorem dL_law_217 : decode cL_law 217 = .ok (.iconst 0, 1) := by decide +kernel
theorem dL_law_218 : decode cL_law 218 = .ok (.ireturn, 1) := by decide +kernel
theorem dL_law_219 : decode cL_law 219 = .ok (.aload_n 1, 1) := by decide +kernel
theorem dL_law_220 : decode cL_law 220 = .ok (.aload_n 0, 1) := by decide +kernel
theorem dL_law_221 : decode cL_law 221 = .ok (.iload_n 3, 1) := by decide +kernel
theorem dL_law_222 : decode cL_law 222 = .ok (.iconst 1, 1) := by decide +kernel
theorem dL_law_223 : decode cL_law 223 = .ok (.iadd, 1) := by decide +kernel
theorem dL_law_224 : decode cL_law 224 = .ok (.iaload, 1) := by decide +kernel
theorem dL_law_225 : decode cL_law 225 = .ok (.invokevirtual 27, 3) := by decide +kernel
theorem dL_law_228 : decode cL_law 228 = .ok (.aload_n 2, 1) := by decide +kernel
theorem dL_law_229 : decode cL_law 229 = .ok (.aload_n 0, 1) := by decide +kernel
theorem dL_law_230 : decode cL_law 230 = .ok (.iload_n 3, 1) := by decide +kernel
theorem dL_law_231 : decode cL_law 231 = .ok (.iconst 1, 1) := by decide +kernel
theorem dL_law_232 : decode cL_law 232 = .ok (.iadd, 1) := by decide +kernel
theorem dL_law_233 : decode cL_law 233 = .ok (.iaload, 1) := by decide +kernel
theorem dL_law_234 : decode cL_law 234 = .ok (.invokevirtual 30, 3) := by decide +kernel
theorem dL_law_237 : decode cL_law 237 = .ok (.if_icmp .eq 765, 3) := by decide +kernel
theorem dL_law_240 : decode cL_law 240 = .ok (.iconst 0, 1) := by decide +kernel
theorem dL_law_241 : decode cL_law 241 = .ok (.ireturn, 1) := by decide +kernel
theorem dL_law_242 : decode cL_law 242 = .ok (.aload_n 1, 1) := by decide +kernel
theorem dL_law_243 : decode cL_law 243 = .ok (.aload_n 0, 1) := by decide +kernel
theorem dL_law_244 : decode cL_law 244 = .ok (.iload_n 3, 1) := by decide +kernel
theorem dL_law_245 : decode cL_law 245 = .ok (.iconst 1, 1) := by decide +kernel
theorem dL_law_246 : decode cL_law 246 = .ok (.iadd, 1) := by decide +kernel
theorem dL_law_247 : decode cL_law 247 = .ok (.iaload, 1) := by decide +kernel
theorem dL_law_248 : decode cL_law 248 = .ok (.aload_n 0, 1) := by decide +kernel
theorem dL_law_249 : decode cL_law 249 = .ok (.iload_n 3, 1) := by decide +kernel
theorem dL_law_250 : decode cL_law 250 = .ok (.iconst 2, 1) := by decide +kernel
theorem dL_law_251 : decode cL_law 251 = .ok (.iadd, 1) := by decide +kernel
theorem dL_law_252 : decode cL_law 252 = .ok (.iaload, 1) := by decide +kernel
theorem dL_law_253 : decode cL_law 253 = .ok (.aload_n 0, 1) := by decide +kernel
theorem dL_law_254 : decode cL_law 254 = .ok (.iload_n 3, 1) := by decide +kernel
theorem dL_law_255 : decode cL_law 255 = .ok (.iconst 3, 1) := by decide +kernel
theorem dL_law_256 : decode cL_law 256 = .ok (.iadd, 1) := by decide +kernel
theorem dL_law_257 : decode cL_law 257 = .ok (.iaload, 1) := by decide +kernel
theorem dL_law_258 : decode cL_law 258 = .ok (.invokevirtual 31, 3) := by decide +kernel
theorem dL_law_261 : decode cL_law 261 = .ok (.aload_n 2, 1) := by decide +kernel
theorem dL_law_262 : decode cL_law 262 = .ok (.aload_n 0, 1) := by decide +kernel
theorem dL_law_263 : decode cL_law 263 = .ok (.iload_n 3, 1) := by decide +kernel
theorem dL_law_264 : decode cL_law 264 = .ok (.iconst 1, 1) := by decide +kernel
theorem dL_law_265 : decode cL_law 265 = .ok (.iadd, 1) := by decide +kernel
theorem dL_law_266 : decode cL_law 266 = .ok (.iaload, 1) := by decide +kernel
theorem dL_law_267 : decode cL_law 267 = .ok (.aload_n 0, 1) := by decide +kernel
theorem dL_law_268 : decode cL_law 268 = .ok (.iload_n 3, 1) := by decide +kernel
theorem dL_law_269 : decode cL_law 269 = .ok (.iconst 2, 1) := by decide +kernel
theorem dL_law_270 : decode cL_law 270 = .ok (.iadd, 1) := by decide +kernel
theorem dL_law_271 : decode cL_law 271 = .ok (.iaload, 1) := by decide +kernel
theorem dL_law_272 : decode cL_law 272 = .ok (.aload_n 0, 1) := by decide +kernel
theorem dL_law_273 : decode cL_law 273 = .ok (.iload_n 3, 1) := by decide +kernel
theorem dL_law_274 : decode cL_law 274 = .ok (.iconst 3, 1) := by decide +kernel
theorem dL_law_275 : decode cL_law 275 = .ok (.iadd, 1) := by decide +kernel
theorem dL_law_276 : decode cL_law 276 = .ok (.iaload, 1) := by decide +kernel
theorem dL_law_277 : decode cL_law 277 = .ok (.invokevirtual 35, 3) := by decide +kernel
theorem dL_law_280 : decode cL_law 280 = .ok (.if_icmp .eq 722, 3) := by decide +kernel
theorem dL_law_283 : decode cL_law 283 = .ok (.iconst 0, 1) := by decide +kernel
theorem dL_law_284 : decode cL_law 284 = .ok (.ireturn, 1) := by decide +kernel
theorem dL_law_285 : decode cL_law 285 = .ok (.aload_n 1, 1) := by decide +kernel
theorem dL_law_286 : decode cL_law 286 = .ok (.aload_n 0, 1) := by decide +kernel
theorem dL_law_287 : decode cL_law 287 = .ok (.iload_n 3, 1) := by decide +kernel
theorem dL_law_288 : decode cL_law 288 = .ok (.iconst 1, 1) := by decide +kernel
theorem dL_law_289 : decode cL_law 289 = .ok (.iadd, 1) := by decide +kernel
theorem dL_law_290 : decode cL_law 290 = .ok (.iaload, 1) := by decide +kernel
theorem dL_law_291 : decode cL_law 291 = .ok (.aload_n 0, 1) := by decide +kernel
theorem dL_law_292 : decode cL_law 292 = .ok (.iload_n 3, 1) := by decide +kernel
theorem dL_law_293 : decode cL_law 293 = .ok (.iconst 2, 1) := by decide +kernel
theorem dL_law_294 : decode cL_law 294 = .ok (.iadd, 1) := by decide +kernel
theorem dL_law_295 : decode cL_law 295 = .ok (.iaload, 1) := by decide +kernel
theorem dL_law_296 : decode cL_law 296 = .ok (.invokevirtual 36, 3) := by decide +kernel
theorem dL_law_299 : decode cL_law 299 = .ok (.aload_n 2, 1) := by decide +kernel
theorem dL_law_300 : decode cL_law 300 = .ok (.aload_n 0, 1) := by decide +kernel
theorem dL_law_301 : decode cL_law 301 = .ok (.iload_n 3, 1) := by decide +kernel
theorem dL_law_302 : decode cL_law 302 = .ok (.iconst 1, 1) := by decide +kernel
theorem dL_law_303 : decode cL_law 303 = .ok (.iadd, 1) := by decide +kernel
theorem dL_law_304 : decode cL_law 304 = .ok (.iaload, 1) := by decide +kernel
theorem dL_law_305 : decode cL_law 305 = .ok (.aload_n 0, 1) := by decide +kernel
theorem dL_law_306 : decode cL_law 306 = .ok (.iload_n 3, 1) := by decide +kernel
theorem dL_law_307 : decode cL_law 307 = .ok (.iconst 2, 1) := by decide +kernel
theorem dL_law_308 : decode cL_law 308 = .ok (.iadd, 1) := by decide +kernel
theorem dL_law_309 : decode cL_law 309 = .ok (.iaload, 1) := by decide +kernel
theorem dL_law_310 : decode cL_law 310 = .ok (.invokevirtual 40, 3) := by decide +kernel
theorem dL_law_313 : decode cL_law 313 = .ok (.if_icmp .eq 689, 3) := by decide +kernel
theorem dL_law_316 : decode cL_law 316 = .ok (.iconst 0, 1) := by decide +kernel
theorem dL_law_317 : decode cL_law 317 = .ok (.ireturn, 1) := by decide +kernel
theorem dL_law_318 : decode cL_law 318 = .ok (.aload_n 1, 1) := by decide +kernel
theorem dL_law_319 : decode cL_law 319 = .ok (.aload_n 0, 1) := by decide +kernel
theorem dL_law_320 : decode cL_law 320 = .ok (.iload_n 3, 1) := by decide +kernel
theorem dL_law_321 : decode cL_law 321 = .ok (.iconst 1, 1) := by decide +kernel
theorem dL_law_322 : decode cL_law 322 = .ok (.iadd, 1) := by decide +kernel
theorem dL_law_323 : decode cL_law 323 = .ok (.iaload, 1) := by decide +kernel
theorem dL_law_324 : decode cL_law 324 = .ok (.invokevirtual 41, 3) := by decide +kernel
theorem dL_law_327 : decode cL_law 327 = .ok (.aload_n 2, 1) := by decide +kernel
theorem dL_law_328 : decode cL_law 328 = .ok (.aload_n 0, 1) := by decide +kernel
theorem dL_law_329 : decode cL_law 329 = .ok (.iload_n 3, 1) := by decide +kernel
theorem dL_law_330 : decode cL_law 330 = .ok (.iconst 1, 1) := by decide +kernel
theorem dL_law_331 : decode cL_law 331 = .ok (.iadd, 1) := by decide +kernel
theorem dL_law_332 : decode cL_law 332 = .ok (.iaload, 1) := by decide +kernel
theorem dL_law_333 : decode cL_law 333 = .ok (.invokevirtual 44, 3) := by decide +kernel
theorem dL_law_336 : decode cL_law 336 = .ok (.if_icmp .eq 666, 3) := by decide +kernel
theorem dL_law_339 : decode cL_law 339 = .ok (.iconst 0, 1) := by decide +kernel
theorem dL_law_340 : decode cL_law 340 = .ok (.ireturn, 1) := by decide +kernel
theorem dL_law_341 : decode cL_law 341 = .ok (.aload_n 1, 1) := by decide +kernel
theorem dL_law_342 : decode cL_law 342 = .ok (.aload_n 0, 1) := by decide +kernel
theorem dL_law_343 : decode cL_law 343 = .ok (.iload_n 3, 1) := by decide +kernel
theorem dL_law_344 : decode cL_law 344 = .ok (.iconst 1, 1) := by decide +kernel
theorem dL_law_345 : decode cL_law 345 = .ok (.iadd, 1) := by decide +kernel
theorem dL_law_346 : decode cL_law 346 = .ok (.iaload, 1) := by decide +kernel
theorem dL_law_347 : decode cL_law 347 = .ok (.invokevirtual 45, 3) := by decide +kernel
theorem dL_law_350 : decode cL_law 350 = .ok (.aload_n 2, 1) := by decide +kernel
theorem dL_law_351 : decode cL_law 351 = .ok (.aload_n 0, 1) := by decide +kernel
theorem dL_law_352 : decode cL_law 352 = .ok (.iload_n 3, 1) := by decide +kernel
theorem dL_law_353 : decode cL_law 353 = .ok (.iconst 1, 1) := by decide +kernel
theorem dL_law_354 : decode cL_law 354 = .ok (.iadd, 1) := by decide +kernel
theorem dL_law_355 : decode cL_law 355 = .ok (.iaload, 1) := by decide +kernel
theorem dL_law_356 : decode cL_law 356 = .ok (.invokevirtual 48, 3) := by decide +kernel
theorem dL_law_359 : decode cL_law 359 = .ok (.if_icmp .eq 643, 3) := by decide +kernel
theorem dL_law_362 : decode cL_law 362 = .ok (.iconst 0, 1) := by decide +kernel
theorem dL_law_363 : decode cL_law 363 = .ok (.ireturn, 1) := by decide +kernel
theorem dL_law_364 : decode cL_law 364 = .ok (.aload_n 1, 1) := by decide +kernel
theorem dL_law_365 : decode cL_law 365 = .ok (.invokevirtual 49, 3) := by decide +kernel
theorem dL_law_368 : decode cL_law 368 = .ok (.aload_n 2, 1) := by decide +kernel
theorem dL_law_369 : decode cL_law 369 = .ok (.invokevirtual 52, 3) := by decide +kernel
theorem dL_law_372 : decode cL_law 372 = .ok (.if_icmp .eq 630, 3) := by decide +kernel
theorem dL_law_375 : decode cL_law 375 = .ok (.iconst 0, 1) := by decide +kernel
theorem dL_law_376 : decode cL_law 376 = .ok (.ireturn, 1) := by decide +kernel
theorem dL_law_377 : decode cL_law 377 = .ok (.aload_n 1, 1) := by decide +kernel
theorem dL_law_378 : decode cL_law 378 = .ok (.aload_n 0, 1) := by decide +kernel
theorem dL_law_379 : decode cL_law 379 = .ok (.iload_n 3, 1) := by decide +kernel
theorem dL_law_380 : decode cL_law 380 = .ok (.iconst 1, 1) := by decide +kernel
theorem dL_law_381 : decode cL_law 381 = .ok (.iadd, 1) := by decide +kernel
theorem dL_law_382 : decode cL_law 382 = .ok (.iaload, 1) := by decide +kernel
theorem dL_law_383 : decode cL_law 383 = .ok (.aload_n 0, 1) := by decide +kernel
theorem dL_law_384 : decode cL_law 384 = .ok (.iload_n 3, 1) := by decide +kernel
theorem dL_law_385 : decode cL_law 385 = .ok (.iconst 2, 1) := by decide +kernel
theorem dL_law_386 : decode cL_law 386 = .ok (.iadd, 1) := by decide +kernel
theorem dL_law_387 : decode cL_law 387 = .ok (.iaload, 1) := by decide +kernel
theorem dL_law_388 : decode cL_law 388 = .ok (.aload_n 0, 1) := by decide +kernel
theorem dL_law_389 : decode cL_law 389 = .ok (.iload_n 3, 1) := by decide +kernel
theorem dL_law_390 : decode cL_law 390 = .ok (.iconst 3, 1) := by decide +kernel
theorem dL_law_391 : decode cL_law 391 = .ok (.iadd, 1) := by decide +kernel
theorem dL_law_392 : decode cL_law 392 = .ok (.iaload, 1) := by decide +kernel
theorem dL_law_393 : decode cL_law 393 = .ok (.aload_n 0, 1) := by decide +kernel
theorem dL_law_394 : decode cL_law 394 = .ok (.iload_n 3, 1) := by decide +kernel
theorem dL_law_395 : decode cL_law 395 = .ok (.iconst 4, 1) := by decide +kernel
theorem dL_law_396 : decode cL_law 396 = .ok (.iadd, 1) := by decide +kernel
theorem dL_law_397 : decode cL_law 397 = .ok (.iaload, 1) := by decide +kernel
theorem dL_law_398 : decode cL_law 398 = .ok (.aload_n 0, 1) := by decide +kernel
theorem dL_law_399 : decode cL_law 399 = .ok (.iload_n 3, 1) := by decide +kernel
theorem dL_law_400 : decode cL_law 400 = .ok (.iconst 5, 1) := by decide +kernel
theorem dL_law_401 : decode cL_law 401 = .ok (.iadd, 1) := by decide +kernel
theorem dL_law_402 : decode cL_law 402 = .ok (.iaload, 1) := by decide +kernel
theorem dL_law_403 : decode cL_law 403 = .ok (.invokevirtual 53, 3) := by decide +kernel
theorem dL_law_406 : decode cL_law 406 = .ok (.aload_n 2, 1) := by decide +kernel
theorem dL_law_407 : decode cL_law 407 = .ok (.aload_n 0, 1) := by decide +kernel
theorem dL_law_408 : decode cL_law 408 = .ok (.iload_n 3, 1) := by decide +kernel
theorem dL_law_409 : decode cL_law 409 = .ok (.iconst 1, 1) := by decide +kernel
theorem dL_law_410 : decode cL_law 410 = .ok (.iadd, 1) := by decide +kernel
theorem dL_law_411 : decode cL_law 411 = .ok (.iaload, 1) := by decide +kernel
theorem dL_law_412 : decode cL_law 412 = .ok (.aload_n 0, 1) := by decide +kernel
theorem dL_law_413 : decode cL_law 413 = .ok (.iload_n 3, 1) := by decide +kernel
theorem dL_law_414 : decode cL_law 414 = .ok (.iconst 2, 1) := by decide +kernel
theorem dL_law_415 : decode cL_law 415 = .ok (.iadd, 1) := by decide +kernel
theorem dL_law_416 : decode cL_law 416 = .ok (.iaload, 1) := by decide +kernel
theorem dL_law_417 : decode cL_law 417 = .ok (.aload_n 0, 1) := by decide +kernel
theorem dL_law_418 : decode cL_law 418 = .ok (.iload_n 3, 1) := by decide +kernel
theorem dL_law_419 : decode cL_law 419 = .ok (.iconst 3, 1) := by decide +kernel
theorem dL_law_420 : decode cL_law 420 = .ok (.iadd, 1) := by decide +kernel
theorem dL_law_421 : decode cL_law 421 = .ok (.iaload, 1) := by decide +kernel
theorem dL_law_422 : decode cL_law 422 = .ok (.aload_n 0, 1) := by decide +kernel
theorem dL_law_423 : decode cL_law 423 = .ok (.iload_n 3, 1) := by decide +kernel
theorem dL_law_424 : decode cL_law 424 = .ok (.iconst 4, 1) := by decide +kernel
theorem dL_law_425 : decode cL_law 425 = .ok (.iadd, 1) := by decide +kernel
theorem dL_law_426 : decode cL_law 426 = .ok (.iaload, 1) := by decide +kernel
theorem dL_law_427 : decode cL_law 427 = .ok (.aload_n 0, 1) := by decide +kernel
theorem dL_law_428 : decode cL_law 428 = .ok (.iload_n 3, 1) := by decide +kernel
theorem dL_law_429 : decode cL_law 429 = .ok (.iconst 5, 1) := by decide +kernel
theorem dL_law_430 : decode cL_law 430 = .ok (.iadd, 1) := by decide +kernel
theorem dL_law_431 : decode cL_law 431 = .ok (.iaload, 1) := by decide +kernel
theorem dL_law_432 : decode cL_law 432 = .ok (.invokevirtual 57, 3) := by decide +kernel
theorem dL_law_435 : decode cL_law 435 = .ok (.lcmp, 1) := by decide +kernel
theorem dL_law_436 : decode cL_law 436 = .ok (.ifCond .eq 566, 3) := by decide +kernel
theorem dL_law_439 : decode cL_law 439 = .ok (.iconst 0, 1) := by decide +kernel
theorem dL_law_440 : decode cL_law 440 = .ok (.ireturn, 1) := by decide +kernel
theorem dL_law_441 : decode cL_law 441 = .ok (.aload_n 1, 1) := by decide +kernel
theorem dL_law_442 : decode cL_law 442 = .ok (.aload_n 0, 1) := by decide +kernel
theorem dL_law_443 : decode cL_law 443 = .ok (.iload_n 3, 1) := by decide +kernel
theorem dL_law_444 : decode cL_law 444 = .ok (.iconst 1, 1) := by decide +kernel
theorem dL_law_445 : decode cL_law 445 = .ok (.iadd, 1) := by decide +kernel
theorem dL_law_446 : decode cL_law 446 = .ok (.iaload, 1) := by decide +kernel
theorem dL_law_447 : decode cL_law 447 = .ok (.aload_n 0, 1) := by decide +kernel
theorem dL_law_448 : decode cL_law 448 = .ok (.iload_n 3, 1) := by decide +kernel
theorem dL_law_449 : decode cL_law 449 = .ok (.iconst 2, 1) := by decide +kernel
theorem dL_law_450 : decode cL_law 450 = .ok (.iadd, 1) := by decide +kernel
theorem dL_law_451 : decode cL_law 451 = .ok (.iaload, 1) := by decide +kernel
theorem dL_law_452 : decode cL_law 452 = .ok (.invokevirtual 58, 3) := by decide +kernel
theorem dL_law_455 : decode cL_law 455 = .ok (.aload_n 2, 1) := by decide +kernel
theorem dL_law_456 : decode cL_law 456 = .ok (.aload_n 0, 1) := by decide +kernel
theorem dL_law_457 : decode cL_law 457 = .ok (.iload_n 3, 1) := by decide +kernel
theorem dL_law_458 : decode cL_law 458 = .ok (.iconst 1, 1) := by decide +kernel
theorem dL_law_459 : decode cL_law 459 = .ok (.iadd, 1) := by decide +kernel
theorem dL_law_460 : decode cL_law 460 = .ok (.iaload, 1) := by decide +kernel
theorem dL_law_461 : decode cL_law 461 = .ok (.aload_n 0, 1) := by decide +kernel
theorem dL_law_462 : decode cL_law 462 = .ok (.iload_n 3, 1) := by decide +kernel
theorem dL_law_463 : decode cL_law 463 = .ok (.iconst 2, 1) := by decide +kernel
theorem dL_law_464 : decode cL_law 464 = .ok (.iadd, 1) := by decide +kernel
theorem dL_law_465 : decode cL_law 465 = .ok (.iaload, 1) := by decide +kernel
theorem dL_law_466 : decode cL_law 466 = .ok (.invokevirtual 62, 3) := by decide +kernel
theorem dL_law_469 : decode cL_law 469 = .ok (.lcmp, 1) := by decide +kernel
theorem dL_law_470 : decode cL_law 470 = .ok (.ifCond .eq 532, 3) := by decide +kernel
theorem dL_law_473 : decode cL_law 473 = .ok (.iconst 0, 1) := by decide +kernel
theorem dL_law_474 : decode cL_law 474 = .ok (.ireturn, 1) := by decide +kernel
theorem dL_law_475 : decode cL_law 475 = .ok (.aload_n 1, 1) := by decide +kernel
theorem dL_law_476 : decode cL_law 476 = .ok (.aload_n 0, 1) := by decide +kernel
theorem dL_law_477 : decode cL_law 477 = .ok (.iload_n 3, 1) := by decide +kernel
theorem dL_law_478 : decode cL_law 478 = .ok (.iconst 1, 1) := by decide +kernel
theorem dL_law_479 : decode cL_law 479 = .ok (.iadd, 1) := by decide +kernel
theorem dL_law_480 : decode cL_law 480 = .ok (.iaload, 1) := by decide +kernel
theorem dL_law_481 : decode cL_law 481 = .ok (.aload_n 0, 1) := by decide +kernel
theorem dL_law_482 : decode cL_law 482 = .ok (.iload_n 3, 1) := by decide +kernel
theorem dL_law_483 : decode cL_law 483 = .ok (.iconst 2, 1) := by decide +kernel
theorem dL_law_484 : decode cL_law 484 = .ok (.iadd, 1) := by decide +kernel
theorem dL_law_485 : decode cL_law 485 = .ok (.iaload, 1) := by decide +kernel
theorem dL_law_486 : decode cL_law 486 = .ok (.invokevirtual 63, 3) := by decide +kernel
theorem dL_law_489 : decode cL_law 489 = .ok (.aload_n 2, 1) := by decide +kernel
theorem dL_law_490 : decode cL_law 490 = .ok (.aload_n 0, 1) := by decide +kernel
theorem dL_law_491 : decode cL_law 491 = .ok (.iload_n 3, 1) := by decide +kernel
theorem dL_law_492 : decode cL_law 492 = .ok (.iconst 1, 1) := by decide +kernel
theorem dL_law_493 : decode cL_law 493 = .ok (.iadd, 1) := by decide +kernel
theorem dL_law_494 : decode cL_law 494 = .ok (.iaload, 1) := by decide +kernel
theorem dL_law_495 : decode cL_law 495 = .ok (.aload_n 0, 1) := by decide +kernel
theorem dL_law_496 : decode cL_law 496 = .ok (.iload_n 3, 1) := by decide +kernel
theorem dL_law_497 : decode cL_law 497 = .ok (.iconst 2, 1) := by decide +kernel
theorem dL_law_498 : decode cL_law 498 = .ok (.iadd, 1) := by decide +kernel
theorem dL_law_499 : decode cL_law 499 = .ok (.iaload, 1) := by decide +kernel
theorem dL_law_500 : decode cL_law 500 = .ok (.invokevirtual 66, 3) := by decide +kernel
theorem dL_law_503 : decode cL_law 503 = .ok (.lcmp, 1) := by decide +kernel
theorem dL_law_504 : decode cL_law 504 = .ok (.ifCond .eq 498, 3) := by decide +kernel
theorem dL_law_507 : decode cL_law 507 = .ok (.iconst 0, 1) := by decide +kernel
theorem dL_law_508 : decode cL_law 508 = .ok (.ireturn, 1) := by decide +kernel
theorem dL_law_509 : decode cL_law 509 = .ok (.aload_n 1, 1) := by decide +kernel
theorem dL_law_510 : decode cL_law 510 = .ok (.aload_n 0, 1) := by decide +kernel
theorem dL_law_511 : decode cL_law 511 = .ok (.iload_n 3, 1) := by decide +kernel
theorem dL_law_512 : decode cL_law 512 = .ok (.iconst 1, 1) := by decide +kernel
theorem dL_law_513 : decode cL_law 513 = .ok (.iadd, 1) := by decide +kernel
theorem dL_law_514 : decode cL_law 514 = .ok (.iaload, 1) := by decide +kernel
theorem dL_law_515 : decode cL_law 515 = .ok (.aload_n 0, 1) := by decide +kernel
theorem dL_law_516 : decode cL_law 516 = .ok (.iload_n 3, 1) := by decide +kernel
theorem dL_law_517 : decode cL_law 517 = .ok (.iconst 2, 1) := by decide +kernel
theorem dL_law_518 : decode cL_law 518 = .ok (.iadd, 1) := by decide +kernel
theorem dL_law_519 : decode cL_law 519 = .ok (.iaload, 1) := by decide +kernel
theorem dL_law_520 : decode cL_law 520 = .ok (.invokevirtual 67, 3) := by decide +kernel
theorem dL_law_523 : decode cL_law 523 = .ok (.aload_n 2, 1) := by decide +kernel
theorem dL_law_524 : decode cL_law 524 = .ok (.aload_n 0, 1) := by decide +kernel
theorem dL_law_525 : decode cL_law 525 = .ok (.iload_n 3, 1) := by decide +kernel
theorem dL_law_526 : decode cL_law 526 = .ok (.iconst 1, 1) := by decide +kernel
theorem dL_law_527 : decode cL_law 527 = .ok (.iadd, 1) := by decide +kernel
theorem dL_law_528 : decode cL_law 528 = .ok (.iaload, 1) := by decide +kernel
theorem dL_law_529 : decode cL_law 529 = .ok (.aload_n 0, 1) := by decide +kernel
theorem dL_law_530 : decode cL_law 530 = .ok (.iload_n 3, 1) := by decide +kernel
theorem dL_law_531 : decode cL_law 531 = .ok (.iconst 2, 1) := by decide +kernel
theorem dL_law_532 : decode cL_law 532 = .ok (.iadd, 1) := by decide +kernel
theorem dL_law_533 : decode cL_law 533 = .ok (.iaload, 1) := by decide +kernel
theorem dL_law_534 : decode cL_law 534 = .ok (.invokevirtual 70, 3) := by decide +kernel
theorem dL_law_537 : decode cL_law 537 = .ok (.lcmp, 1) := by decide +kernel
theorem dL_law_538 : decode cL_law 538 = .ok (.ifCond .eq 464, 3) := by decide +kernel
theorem dL_law_541 : decode cL_law 541 = .ok (.iconst 0, 1) := by decide +kernel
theorem dL_law_542 : decode cL_law 542 = .ok (.ireturn, 1) := by decide +kernel
theorem dL_law_543 : decode cL_law 543 = .ok (.aload_n 1, 1) := by decide +kernel
theorem dL_law_544 : decode cL_law 544 = .ok (.aload_n 0, 1) := by decide +kernel
theorem dL_law_545 : decode cL_law 545 = .ok (.iload_n 3, 1) := by decide +kernel
theorem dL_law_546 : decode cL_law 546 = .ok (.iconst 1, 1) := by decide +kernel
theorem dL_law_547 : decode cL_law 547 = .ok (.iadd, 1) := by decide +kernel
theorem dL_law_548 : decode cL_law 548 = .ok (.iaload, 1) := by decide +kernel
theorem dL_law_549 : decode cL_law 549 = .ok (.invokevirtual 71, 3) := by decide +kernel
theorem dL_law_552 : decode cL_law 552 = .ok (.aload_n 2, 1) := by decide +kernel
theorem dL_law_553 : decode cL_law 553 = .ok (.aload_n 0, 1) := by decide +kernel
theorem dL_law_554 : decode cL_law 554 = .ok (.iload_n 3, 1) := by decide +kernel
theorem dL_law_555 : decode cL_law 555 = .ok (.iconst 1, 1) := by decide +kernel
theorem dL_law_556 : decode cL_law 556 = .ok (.iadd, 1) := by decide +kernel
theorem dL_law_557 : decode cL_law 557 = .ok (.iaload, 1) := by decide +kernel
theorem dL_law_558 : decode cL_law 558 = .ok (.invokevirtual 74, 3) := by decide +kernel
theorem dL_law_561 : decode cL_law 561 = .ok (.if_icmp .eq 441, 3) := by decide +kernel
theorem dL_law_564 : decode cL_law 564 = .ok (.iconst 0, 1) := by decide +kernel
theorem dL_law_565 : decode cL_law 565 = .ok (.ireturn, 1) := by decide +kernel
theorem dL_law_566 : decode cL_law 566 = .ok (.aload_n 1, 1) := by decide +kernel
theorem dL_law_567 : decode cL_law 567 = .ok (.aload_n 0, 1) := by decide +kernel
theorem dL_law_568 : decode cL_law 568 = .ok (.iload_n 3, 1) := by decide +kernel
theorem dL_law_569 : decode cL_law 569 = .ok (.iconst 1, 1) := by decide +kernel
theorem dL_law_570 : decode cL_law 570 = .ok (.iadd, 1) := by decide +kernel
theorem dL_law_571 : decode cL_law 571 = .ok (.iaload, 1) := by decide +kernel
theorem dL_law_572 : decode cL_law 572 = .ok (.aload_n 0, 1) := by decide +kernel
theorem dL_law_573 : decode cL_law 573 = .ok (.iload_n 3, 1) := by decide +kernel
theorem dL_law_574 : decode cL_law 574 = .ok (.iconst 2, 1) := by decide +kernel
theorem dL_law_575 : decode cL_law 575 = .ok (.iadd, 1) := by decide +kernel
theorem dL_law_576 : decode cL_law 576 = .ok (.iaload, 1) := by decide +kernel
theorem dL_law_577 : decode cL_law 577 = .ok (.aload_n 0, 1) := by decide +kernel
theorem dL_law_578 : decode cL_law 578 = .ok (.iload_n 3, 1) := by decide +kernel
theorem dL_law_579 : decode cL_law 579 = .ok (.iconst 3, 1) := by decide +kernel
theorem dL_law_580 : decode cL_law 580 = .ok (.iadd, 1) := by decide +kernel
theorem dL_law_581 : decode cL_law 581 = .ok (.iaload, 1) := by decide +kernel
theorem dL_law_582 : decode cL_law 582 = .ok (.aload_n 0, 1) := by decide +kernel
theorem dL_law_583 : decode cL_law 583 = .ok (.iload_n 3, 1) := by decide +kernel
theorem dL_law_584 : decode cL_law 584 = .ok (.iconst 4, 1) := by decide +kernel
theorem dL_law_585 : decode cL_law 585 = .ok (.iadd, 1) := by decide +kernel
theorem dL_law_586 : decode cL_law 586 = .ok (.iaload, 1) := by decide +kernel
theorem dL_law_587 : decode cL_law 587 = .ok (.invokevirtual 75, 3) := by decide +kernel
theorem dL_law_590 : decode cL_law 590 = .ok (.aload_n 2, 1) := by decide +kernel
theorem dL_law_591 : decode cL_law 591 = .ok (.aload_n 0, 1) := by decide +kernel
theorem dL_law_592 : decode cL_law 592 = .ok (.iload_n 3, 1) := by decide +kernel
theorem dL_law_593 : decode cL_law 593 = .ok (.iconst 1, 1) := by decide +kernel
theorem dL_law_594 : decode cL_law 594 = .ok (.iadd, 1) := by decide +kernel
theorem dL_law_595 : decode cL_law 595 = .ok (.iaload, 1) := by decide +kernel
theorem dL_law_596 : decode cL_law 596 = .ok (.aload_n 0, 1) := by decide +kernel
theorem dL_law_597 : decode cL_law 597 = .ok (.iload_n 3, 1) := by decide +kernel
theorem dL_law_598 : decode cL_law 598 = .ok (.iconst 2, 1) := by decide +kernel
theorem dL_law_599 : decode cL_law 599 = .ok (.iadd, 1) := by decide +kernel
theorem dL_law_600 : decode cL_law 600 = .ok (.iaload, 1) := by decide +kernel
theorem dL_law_601 : decode cL_law 601 = .ok (.aload_n 0, 1) := by decide +kernel
theorem dL_law_602 : decode cL_law 602 = .ok (.iload_n 3, 1) := by decide +kernel
theorem dL_law_603 : decode cL_law 603 = .ok (.iconst 3, 1) := by decide +kernel
theorem dL_law_604 : decode cL_law 604 = .ok (.iadd, 1) := by decide +kernel
theorem dL_law_605 : decode cL_law 605 = .ok (.iaload, 1) := by decide +kernel
theorem dL_law_606 : decode cL_law 606 = .ok (.aload_n 0, 1) := by decide +kernel
theorem dL_law_607 : decode cL_law 607 = .ok (.iload_n 3, 1) := by decide +kernel
theorem dL_law_608 : decode cL_law 608 = .ok (.iconst 4, 1) := by decide +kernel
theorem dL_law_609 : decode cL_law 609 = .ok (.iadd, 1) := by decide +kernel
theorem dL_law_610 : decode cL_law 610 = .ok (.iaload, 1) := by decide +kernel
theorem dL_law_611 : decode cL_law 611 = .ok (.invokevirtual 79, 3) := by decide +kernel
theorem dL_law_614 : decode cL_law 614 = .ok (.lcmp, 1) := by decide +kernel
theorem dL_law_615 : decode cL_law 615 = .ok (.ifCond .eq 387, 3) := by decide +kernel
theorem dL_law_618 : decode cL_law 618 = .ok (.iconst 0, 1) := by decide +kernel
theorem dL_law_619 : decode cL_law 619 = .ok (.ireturn, 1) := by decide +kernel
theorem dL_law_620 : decode cL_law 620 = .ok (.aload_n 1, 1) := by decide +kernel
theorem dL_law_621 : decode cL_law 621 = .ok (.aload_n 0, 1) := by decide +kernel
theorem dL_law_622 : decode cL_law 622 = .ok (.iload_n 3, 1) := by decide +kernel
theorem dL_law_623 : decode cL_law 623 = .ok (.iconst 1, 1) := by decide +kernel
theorem dL_law_624 : decode cL_law 624 = .ok (.iadd, 1) := by decide +kernel
theorem dL_law_625 : decode cL_law 625 = .ok (.iaload, 1) := by decide +kernel
theorem dL_law_626 : decode cL_law 626 = .ok (.aload_n 0, 1) := by decide +kernel
theorem dL_law_627 : decode cL_law 627 = .ok (.iload_n 3, 1) := by decide +kernel
theorem dL_law_628 : decode cL_law 628 = .ok (.iconst 2, 1) := by decide +kernel
theorem dL_law_629 : decode cL_law 629 = .ok (.iadd, 1) := by decide +kernel
theorem dL_law_630 : decode cL_law 630 = .ok (.iaload, 1) := by decide +kernel
theorem dL_law_631 : decode cL_law 631 = .ok (.invokevirtual 80, 3) := by decide +kernel
theorem dL_law_634 : decode cL_law 634 = .ok (.aload_n 2, 1) := by decide +kernel
theorem dL_law_635 : decode cL_law 635 = .ok (.aload_n 0, 1) := by decide +kernel
theorem dL_law_636 : decode cL_law 636 = .ok (.iload_n 3, 1) := by decide +kernel
theorem dL_law_637 : decode cL_law 637 = .ok (.iconst 1, 1) := by decide +kernel
theorem dL_law_638 : decode cL_law 638 = .ok (.iadd, 1) := by decide +kernel
theorem dL_law_639 : decode cL_law 639 = .ok (.iaload, 1) := by decide +kernel
theorem dL_law_640 : decode cL_law 640 = .ok (.aload_n 0, 1) := by decide +kernel
theorem dL_law_641 : decode cL_law 641 = .ok (.iload_n 3, 1) := by decide +kernel
theorem dL_law_642 : decode cL_law 642 = .ok (.iconst 2, 1) := by decide +kernel
theorem dL_law_643 : decode cL_law 643 = .ok (.iadd, 1) := by decide +kernel
theorem dL_law_644 : decode cL_law 644 = .ok (.iaload, 1) := by decide +kernel
theorem dL_law_645 : decode cL_law 645 = .ok (.invokevirtual 83, 3) := by decide +kernel
theorem dL_law_648 : decode cL_law 648 = .ok (.if_icmp .eq 354, 3) := by decide +kernel
theorem dL_law_651 : decode cL_law 651 = .ok (.iconst 0, 1) := by decide +kernel
theorem dL_law_652 : decode cL_law 652 = .ok (.ireturn, 1) := by decide +kernel
theorem dL_law_653 : decode cL_law 653 = .ok (.aload_n 1, 1) := by decide +kernel
theorem dL_law_654 : decode cL_law 654 = .ok (.aload_n 0, 1) := by decide +kernel
theorem dL_law_655 : decode cL_law 655 = .ok (.iload_n 3, 1) := by decide +kernel
theorem dL_law_656 : decode cL_law 656 = .ok (.iconst 1, 1) := by decide +kernel
theorem dL_law_657 : decode cL_law 657 = .ok (.iadd, 1) := by decide +kernel
theorem dL_law_658 : decode cL_law 658 = .ok (.iaload, 1) := by decide +kernel
theorem dL_law_659 : decode cL_law 659 = .ok (.aload_n 0, 1) := by decide +kernel
theorem dL_law_660 : decode cL_law 660 = .ok (.iload_n 3, 1) := by decide +kernel
theorem dL_law_661 : decode cL_law 661 = .ok (.iconst 2, 1) := by decide +kernel
theorem dL_law_662 : decode cL_law 662 = .ok (.iadd, 1) := by decide +kernel
theorem dL_law_663 : decode cL_law 663 = .ok (.iaload, 1) := by decide +kernel
theorem dL_law_664 : decode cL_law 664 = .ok (.invokevirtual 84, 3) := by decide +kernel
theorem dL_law_667 : decode cL_law 667 = .ok (.aload_n 2, 1) := by decide +kernel
theorem dL_law_668 : decode cL_law 668 = .ok (.aload_n 0, 1) := by decide +kernel
theorem dL_law_669 : decode cL_law 669 = .ok (.iload_n 3, 1) := by decide +kernel
theorem dL_law_670 : decode cL_law 670 = .ok (.iconst 1, 1) := by decide +kernel
theorem dL_law_671 : decode cL_law 671 = .ok (.iadd, 1) := by decide +kernel
theorem dL_law_672 : decode cL_law 672 = .ok (.iaload, 1) := by decide +kernel
theorem dL_law_673 : decode cL_law 673 = .ok (.aload_n 0, 1) := by decide +kernel
theorem dL_law_674 : decode cL_law 674 = .ok (.iload_n 3, 1) := by decide +kernel
theorem dL_law_675 : decode cL_law 675 = .ok (.iconst 2, 1) := by decide +kernel
theorem dL_law_676 : decode cL_law 676 = .ok (.iadd, 1) := by decide +kernel
theorem dL_law_677 : decode cL_law 677 = .ok (.iaload, 1) := by decide +kernel
theorem dL_law_678 : decode cL_law 678 = .ok (.invokevirtual 87, 3) := by decide +kernel
theorem dL_law_681 : decode cL_law 681 = .ok (.lcmp, 1) := by decide +kernel
theorem dL_law_682 : decode cL_law 682 = .ok (.ifCond .eq 320, 3) := by decide +kernel
theorem dL_law_685 : decode cL_law 685 = .ok (.iconst 0, 1) := by decide +kernel
theorem dL_law_686 : decode cL_law 686 = .ok (.ireturn, 1) := by decide +kernel
theorem dL_law_687 : decode cL_law 687 = .ok (.aload_n 1, 1) := by decide +kernel
theorem dL_law_688 : decode cL_law 688 = .ok (.invokevirtual 88, 3) := by decide +kernel
theorem dL_law_691 : decode cL_law 691 = .ok (.aload_n 2, 1) := by decide +kernel
theorem dL_law_692 : decode cL_law 692 = .ok (.invokevirtual 91, 3) := by decide +kernel
theorem dL_law_695 : decode cL_law 695 = .ok (.if_icmp .eq 307, 3) := by decide +kernel
theorem dL_law_698 : decode cL_law 698 = .ok (.iconst 0, 1) := by decide +kernel
theorem dL_law_699 : decode cL_law 699 = .ok (.ireturn, 1) := by decide +kernel
theorem dL_law_700 : decode cL_law 700 = .ok (.aload_n 1, 1) := by decide +kernel
theorem dL_law_701 : decode cL_law 701 = .ok (.aload_n 0, 1) := by decide +kernel
theorem dL_law_702 : decode cL_law 702 = .ok (.iload_n 3, 1) := by decide +kernel
theorem dL_law_703 : decode cL_law 703 = .ok (.iconst 1, 1) := by decide +kernel
theorem dL_law_704 : decode cL_law 704 = .ok (.iadd, 1) := by decide +kernel
theorem dL_law_705 : decode cL_law 705 = .ok (.iaload, 1) := by decide +kernel
theorem dL_law_706 : decode cL_law 706 = .ok (.aload_n 0, 1) := by decide +kernel
theorem dL_law_707 : decode cL_law 707 = .ok (.iload_n 3, 1) := by decide +kernel
theorem dL_law_708 : decode cL_law 708 = .ok (.iconst 2, 1) := by decide +kernel
theorem dL_law_709 : decode cL_law 709 = .ok (.iadd, 1) := by decide +kernel
theorem dL_law_710 : decode cL_law 710 = .ok (.iaload, 1) := by decide +kernel
theorem dL_law_711 : decode cL_law 711 = .ok (.invokevirtual 92, 3) := by decide +kernel
theorem dL_law_714 : decode cL_law 714 = .ok (.aload_n 2, 1) := by decide +kernel
theorem dL_law_715 : decode cL_law 715 = .ok (.aload_n 0, 1) := by decide +kernel
theorem dL_law_716 : decode cL_law 716 = .ok (.iload_n 3, 1) := by decide +kernel
theorem dL_law_717 : decode cL_law 717 = .ok (.iconst 1, 1) := by decide +kernel
theorem dL_law_718 : decode cL_law 718 = .ok (.iadd, 1) := by decide +kernel
theorem dL_law_719 : decode cL_law 719 = .ok (.iaload, 1) := by decide +kernel
theorem dL_law_720 : decode cL_law 720 = .ok (.aload_n 0, 1) := by decide +kernel
theorem dL_law_721 : decode cL_law 721 = .ok (.iload_n 3, 1) := by decide +kernel
theorem dL_law_722 : decode cL_law 722 = .ok (.iconst 2, 1) := by decide +kernel
theorem dL_law_723 : decode cL_law 723 = .ok (.iadd, 1) := by decide +kernel
theorem dL_law_724 : decode cL_law 724 = .ok (.iaload, 1) := by decide +kernel
theorem dL_law_725 : decode cL_law 725 = .ok (.invokevirtual 95, 3) := by decide +kernel
theorem dL_law_728 : decode cL_law 728 = .ok (.lcmp, 1) := by decide +kernel
theorem dL_law_729 : decode cL_law 729 = .ok (.ifCond .eq 273, 3) := by decide +kernel
theorem dL_law_732 : decode cL_law 732 = .ok (.iconst 0, 1) := by decide +kernel
theorem dL_law_733 : decode cL_law 733 = .ok (.ireturn, 1) := by decide +kernel
theorem dL_law_734 : decode cL_law 734 = .ok (.aload_n 1, 1) := by decide +kernel
theorem dL_law_735 : decode cL_law 735 = .ok (.aload_n 0, 1) := by decide +kernel
theorem dL_law_736 : decode cL_law 736 = .ok (.iload_n 3, 1) := by decide +kernel
theorem dL_law_737 : decode cL_law 737 = .ok (.iconst 1, 1) := by decide +kernel
theorem dL_law_738 : decode cL_law 738 = .ok (.iadd, 1) := by decide +kernel
theorem dL_law_739 : decode cL_law 739 = .ok (.iaload, 1) := by decide +kernel
theorem dL_law_740 : decode cL_law 740 = .ok (.aload_n 0, 1) := by decide +kernel
theorem dL_law_741 : decode cL_law 741 = .ok (.iload_n 3, 1) := by decide +kernel
theorem dL_law_742 : decode cL_law 742 = .ok (.iconst 2, 1) := by decide +kernel
theorem dL_law_743 : decode cL_law 743 = .ok (.iadd, 1) := by decide +kernel
theorem dL_law_744 : decode cL_law 744 = .ok (.iaload, 1) := by decide +kernel
theorem dL_law_745 : decode cL_law 745 = .ok (.aload_n 0, 1) := by decide +kernel
theorem dL_law_746 : decode cL_law 746 = .ok (.iload_n 3, 1) := by decide +kernel
theorem dL_law_747 : decode cL_law 747 = .ok (.iconst 3, 1) := by decide +kernel
theorem dL_law_748 : decode cL_law 748 = .ok (.iadd, 1) := by decide +kernel
theorem dL_law_749 : decode cL_law 749 = .ok (.iaload, 1) := by decide +kernel
theorem dL_law_750 : decode cL_law 750 = .ok (.invokevirtual 96, 3) := by decide +kernel
theorem dL_law_753 : decode cL_law 753 = .ok (.aload_n 2, 1) := by decide +kernel
theorem dL_law_754 : decode cL_law 754 = .ok (.aload_n 0, 1) := by decide +kernel
theorem dL_law_755 : decode cL_law 755 = .ok (.iload_n 3, 1) := by decide +kernel
theorem dL_law_756 : decode cL_law 756 = .ok (.iconst 1, 1) := by decide +kernel
theorem dL_law_757 : decode cL_law 757 = .ok (.iadd, 1) := by decide +kernel
theorem dL_law_758 : decode cL_law 758 = .ok (.iaload, 1) := by decide +kernel
theorem dL_law_759 : decode cL_law 759 = .ok (.aload_n 0, 1) := by decide +kernel
theorem dL_law_760 : decode cL_law 760 = .ok (.iload_n 3, 1) := by decide +kernel
theorem dL_law_761 : decode cL_law 761 = .ok (.iconst 2, 1) := by decide +kernel
theorem dL_law_762 : decode cL_law 762 = .ok (.iadd, 1) := by decide +kernel
theorem dL_law_763 : decode cL_law 763 = .ok (.iaload, 1) := by decide +kernel
theorem dL_law_764 : decode cL_law 764 = .ok (.aload_n 0, 1) := by decide +kernel
theorem dL_law_765 : decode cL_law 765 = .ok (.iload_n 3, 1) := by decide +kernel
theorem dL_law_766 : decode cL_law 766 = .ok (.iconst 3, 1) := by decide +kernel
theorem dL_law_767 : decode cL_law 767 = .ok (.iadd, 1) := by decide +kernel
theorem dL_law_768 : decode cL_law 768 = .ok (.iaload, 1) := by decide +kernel
theorem dL_law_769 : decode cL_law 769 = .ok (.invokevirtual 99, 3) := by decide +kernel
theorem dL_law_772 : decode cL_law 772 = .ok (.if_icmp .eq 230, 3) := by decide +kernel
theorem dL_law_775 : decode cL_law 775 = .ok (.iconst 0, 1) := by decide +kernel
theorem dL_law_776 : decode cL_law 776 = .ok (.ireturn, 1) := by decide +kernel
theorem dL_law_777 : decode cL_law 777 = .ok (.aload_n 1, 1) := by decide +kernel
theorem dL_law_778 : decode cL_law 778 = .ok (.aload_n 0, 1) := by decide +kernel
theorem dL_law_779 : decode cL_law 779 = .ok (.iload_n 3, 1) := by decide +kernel
theorem dL_law_780 : decode cL_law 780 = .ok (.iconst 1, 1) := by decide +kernel
theorem dL_law_781 : decode cL_law 781 = .ok (.iadd, 1) := by decide +kernel
theorem dL_law_782 : decode cL_law 782 = .ok (.iaload, 1) := by decide +kernel
theorem dL_law_783 : decode cL_law 783 = .ok (.aload_n 0, 1) := by decide +kernel
theorem dL_law_784 : decode cL_law 784 = .ok (.iload_n 3, 1) := by decide +kernel
theorem dL_law_785 : decode cL_law 785 = .ok (.iconst 2, 1) := by decide +kernel
theorem dL_law_786 : decode cL_law 786 = .ok (.iadd, 1) := by decide +kernel
theorem dL_law_787 : decode cL_law 787 = .ok (.iaload, 1) := by decide +kernel
theorem dL_law_788 : decode cL_law 788 = .ok (.aload_n 0, 1) := by decide +kernel
theorem dL_law_789 : decode cL_law 789 = .ok (.iload_n 3, 1) := by decide +kernel
theorem dL_law_790 : decode cL_law 790 = .ok (.iconst 3, 1) := by decide +kernel
theorem dL_law_791 : decode cL_law 791 = .ok (.iadd, 1) := by decide +kernel
theorem dL_law_792 : decode cL_law 792 = .ok (.iaload, 1) := by decide +kernel
theorem dL_law_793 : decode cL_law 793 = .ok (.invokevirtual 100, 3) := by decide +kernel
theorem dL_law_796 : decode cL_law 796 = .ok (.aload_n 2, 1) := by decide +kernel
theorem dL_law_797 : decode cL_law 797 = .ok (.aload_n 0, 1) := by decide +kernel
theorem dL_law_798 : decode cL_law 798 = .ok (.iload_n 3, 1) := by decide +kernel
theorem dL_law_799 : decode cL_law 799 = .ok (.iconst 1, 1) := by decide +kernel
theorem dL_law_800 : decode cL_law 800 = .ok (.iadd, 1) := by decide +kernel
theorem dL_law_801 : decode cL_law 801 = .ok (.iaload, 1) := by decide +kernel
theorem dL_law_802 : decode cL_law 802 = .ok (.aload_n 0, 1) := by decide +kernel
theorem dL_law_803 : decode cL_law 803 = .ok (.iload_n 3, 1) := by decide +kernel
theorem dL_law_804 : decode cL_law 804 = .ok (.iconst 2, 1) := by decide +kernel
theorem dL_law_805 : decode cL_law 805 = .ok (.iadd, 1) := by decide +kernel
theorem dL_law_806 : decode cL_law 806 = .ok (.iaload, 1) := by decide +kernel
theorem dL_law_807 : decode cL_law 807 = .ok (.aload_n 0, 1) := by decide +kernel
theorem dL_law_808 : decode cL_law 808 = .ok (.iload_n 3, 1) := by decide +kernel
theorem dL_law_809 : decode cL_law 809 = .ok (.iconst 3, 1) := by decide +kernel
theorem dL_law_810 : decode cL_law 810 = .ok (.iadd, 1) := by decide +kernel
theorem dL_law_811 : decode cL_law 811 = .ok (.iaload, 1) := by decide +kernel
theorem dL_law_812 : decode cL_law 812 = .ok (.invokevirtual 104, 3) := by decide +kernel
theorem dL_law_815 : decode cL_law 815 = .ok (.lcmp, 1) := by decide +kernel
theorem dL_law_816 : decode cL_law 816 = .ok (.ifCond .eq 186, 3) := by decide +kernel
theorem dL_law_819 : decode cL_law 819 = .ok (.iconst 0, 1) := by decide +kernel
theorem dL_law_820 : decode cL_law 820 = .ok (.ireturn, 1) := by decide +kernel
theorem dL_law_821 : decode cL_law 821 = .ok (.aload_n 1, 1) := by decide +kernel
theorem dL_law_822 : decode cL_law 822 = .ok (.aload_n 0, 1) := by decide +kernel
theorem dL_law_823 : decode cL_law 823 = .ok (.iload_n 3, 1) := by decide +kernel
theorem dL_law_824 : decode cL_law 824 = .ok (.iconst 1, 1) := by decide +kernel
theorem dL_law_825 : decode cL_law 825 = .ok (.iadd, 1) := by decide +kernel
theorem dL_law_826 : decode cL_law 826 = .ok (.iaload, 1) := by decide +kernel
theorem dL_law_827 : decode cL_law 827 = .ok (.invokevirtual 105, 3) := by decide +kernel
theorem dL_law_830 : decode cL_law 830 = .ok (.aload_n 2, 1) := by decide +kernel
theorem dL_law_831 : decode cL_law 831 = .ok (.aload_n 0, 1) := by decide +kernel
theorem dL_law_832 : decode cL_law 832 = .ok (.iload_n 3, 1) := by decide +kernel
theorem dL_law_833 : decode cL_law 833 = .ok (.iconst 1, 1) := by decide +kernel
theorem dL_law_834 : decode cL_law 834 = .ok (.iadd, 1) := by decide +kernel
theorem dL_law_835 : decode cL_law 835 = .ok (.iaload, 1) := by decide +kernel
theorem dL_law_836 : decode cL_law 836 = .ok (.invokevirtual 108, 3) := by decide +kernel
theorem dL_law_839 : decode cL_law 839 = .ok (.if_icmp .eq 163, 3) := by decide +kernel
theorem dL_law_842 : decode cL_law 842 = .ok (.iconst 0, 1) := by decide +kernel
theorem dL_law_843 : decode cL_law 843 = .ok (.ireturn, 1) := by decide +kernel
theorem dL_law_844 : decode cL_law 844 = .ok (.aload_n 1, 1) := by decide +kernel
theorem dL_law_845 : decode cL_law 845 = .ok (.invokevirtual 109, 3) := by decide +kernel
theorem dL_law_848 : decode cL_law 848 = .ok (.aload_n 2, 1) := by decide +kernel
theorem dL_law_849 : decode cL_law 849 = .ok (.invokevirtual 112, 3) := by decide +kernel
theorem dL_law_852 : decode cL_law 852 = .ok (.if_icmp .eq 150, 3) := by decide +kernel
theorem dL_law_855 : decode cL_law 855 = .ok (.iconst 0, 1) := by decide +kernel
theorem dL_law_856 : decode cL_law 856 = .ok (.ireturn, 1) := by decide +kernel
theorem dL_law_857 : decode cL_law 857 = .ok (.aload_n 1, 1) := by decide +kernel
theorem dL_law_858 : decode cL_law 858 = .ok (.aload_n 0, 1) := by decide +kernel
theorem dL_law_859 : decode cL_law 859 = .ok (.iload_n 3, 1) := by decide +kernel
theorem dL_law_860 : decode cL_law 860 = .ok (.iconst 1, 1) := by decide +kernel
theorem dL_law_861 : decode cL_law 861 = .ok (.iadd, 1) := by decide +kernel
theorem dL_law_862 : decode cL_law 862 = .ok (.iaload, 1) := by decide +kernel
theorem dL_law_863 : decode cL_law 863 = .ok (.aload_n 0, 1) := by decide +kernel
theorem dL_law_864 : decode cL_law 864 = .ok (.iload_n 3, 1) := by decide +kernel
theorem dL_law_865 : decode cL_law 865 = .ok (.iconst 2, 1) := by decide +kernel
theorem dL_law_866 : decode cL_law 866 = .ok (.iadd, 1) := by decide +kernel
theorem dL_law_867 : decode cL_law 867 = .ok (.iaload, 1) := by decide +kernel
theorem dL_law_868 : decode cL_law 868 = .ok (.invokevirtual 113, 3) := by decide +kernel
theorem dL_law_871 : decode cL_law 871 = .ok (.aload_n 2, 1) := by decide +kernel
theorem dL_law_872 : decode cL_law 872 = .ok (.aload_n 0, 1) := by decide +kernel
theorem dL_law_873 : decode cL_law 873 = .ok (.iload_n 3, 1) := by decide +kernel
theorem dL_law_874 : decode cL_law 874 = .ok (.iconst 1, 1) := by decide +kernel
theorem dL_law_875 : decode cL_law 875 = .ok (.iadd, 1) := by decide +kernel
theorem dL_law_876 : decode cL_law 876 = .ok (.iaload, 1) := by decide +kernel
theorem dL_law_877 : decode cL_law 877 = .ok (.aload_n 0, 1) := by decide +kernel
theorem dL_law_878 : decode cL_law 878 = .ok (.iload_n 3, 1) := by decide +kernel
theorem dL_law_879 : decode cL_law 879 = .ok (.iconst 2, 1) := by decide +kernel
theorem dL_law_880 : decode cL_law 880 = .ok (.iadd, 1) := by decide +kernel
theorem dL_law_881 : decode cL_law 881 = .ok (.iaload, 1) := by decide +kernel
theorem dL_law_882 : decode cL_law 882 = .ok (.invokevirtual 116, 3) := by decide +kernel
theorem dL_law_885 : decode cL_law 885 = .ok (.if_icmp .eq 117, 3) := by decide +kernel
theorem dL_law_888 : decode cL_law 888 = .ok (.iconst 0, 1) := by decide +kernel
theorem dL_law_889 : decode cL_law 889 = .ok (.ireturn, 1) := by decide +kernel
theorem dL_law_890 : decode cL_law 890 = .ok (.aload_n 1, 1) := by decide +kernel
theorem dL_law_891 : decode cL_law 891 = .ok (.aload_n 0, 1) := by decide +kernel
theorem dL_law_892 : decode cL_law 892 = .ok (.iload_n 3, 1) := by decide +kernel
theorem dL_law_893 : decode cL_law 893 = .ok (.iconst 1, 1) := by decide +kernel
theorem dL_law_894 : decode cL_law 894 = .ok (.iadd, 1) := by decide +kernel
theorem dL_law_895 : decode cL_law 895 = .ok (.iaload, 1) := by decide +kernel
theorem dL_law_896 : decode cL_law 896 = .ok (.aload_n 0, 1) := by decide +kernel
theorem dL_law_897 : decode cL_law 897 = .ok (.iload_n 3, 1) := by decide +kernel
theorem dL_law_898 : decode cL_law 898 = .ok (.iconst 2, 1) := by decide +kernel
theorem dL_law_899 : decode cL_law 899 = .ok (.iadd, 1) := by decide +kernel
theorem dL_law_900 : decode cL_law 900 = .ok (.iaload, 1) := by decide +kernel
theorem dL_law_901 : decode cL_law 901 = .ok (.aload_n 0, 1) := by decide +kernel
theorem dL_law_902 : decode cL_law 902 = .ok (.iload_n 3, 1) := by decide +kernel
theorem dL_law_903 : decode cL_law 903 = .ok (.iconst 3, 1) := by decide +kernel
theorem dL_law_904 : decode cL_law 904 = .ok (.iadd, 1) := by decide +kernel
theorem dL_law_905 : decode cL_law 905 = .ok (.iaload, 1) := by decide +kernel
theorem dL_law_906 : decode cL_law 906 = .ok (.invokevirtual 117, 3) := by decide +kernel
theorem dL_law_909 : decode cL_law 909 = .ok (.aload_n 2, 1) := by decide +kernel
theorem dL_law_910 : decode cL_law 910 = .ok (.aload_n 0, 1) := by decide +kernel
theorem dL_law_911 : decode cL_law 911 = .ok (.iload_n 3, 1) := by decide +kernel
theorem dL_law_912 : decode cL_law 912 = .ok (.iconst 1, 1) := by decide +kernel
theorem dL_law_913 : decode cL_law 913 = .ok (.iadd, 1) := by decide +kernel
theorem dL_law_914 : decode cL_law 914 = .ok (.iaload, 1) := by decide +kernel
theorem dL_law_915 : decode cL_law 915 = .ok (.aload_n 0, 1) := by decide +kernel
theorem dL_law_916 : decode cL_law 916 = .ok (.iload_n 3, 1) := by decide +kernel
theorem dL_law_917 : decode cL_law 917 = .ok (.iconst 2, 1) := by decide +kernel
theorem dL_law_918 : decode cL_law 918 = .ok (.iadd, 1) := by decide +kernel
theorem dL_law_919 : decode cL_law 919 = .ok (.iaload, 1) := by decide +kernel
theorem dL_law_920 : decode cL_law 920 = .ok (.aload_n 0, 1) := by decide +kernel
theorem dL_law_921 : decode cL_law 921 = .ok (.iload_n 3, 1) := by decide +kernel
theorem dL_law_922 : decode cL_law 922 = .ok (.iconst 3, 1) := by decide +kernel
theorem dL_law_923 : decode cL_law 923 = .ok (.iadd, 1) := by decide +kernel
theorem dL_law_924 : decode cL_law 924 = .ok (.iaload, 1) := by decide +kernel
theorem dL_law_925 : decode cL_law 925 = .ok (.invokevirtual 120, 3) := by decide +kernel
theorem dL_law_928 : decode cL_law 928 = .ok (.if_icmp .eq 74, 3) := by decide +kernel
theorem dL_law_931 : decode cL_law 931 = .ok (.iconst 0, 1) := by decide +kernel
theorem dL_law_932 : decode cL_law 932 = .ok (.ireturn, 1) := by decide +kernel
theorem dL_law_933 : decode cL_law 933 = .ok (.aload_n 1, 1) := by decide +kernel
theorem dL_law_934 : decode cL_law 934 = .ok (.aload_n 0, 1) := by decide +kernel
theorem dL_law_935 : decode cL_law 935 = .ok (.iload_n 3, 1) := by decide +kernel
theorem dL_law_936 : decode cL_law 936 = .ok (.iconst 1, 1) := by decide +kernel
theorem dL_law_937 : decode cL_law 937 = .ok (.iadd, 1) := by decide +kernel
theorem dL_law_938 : decode cL_law 938 = .ok (.iaload, 1) := by decide +kernel
theorem dL_law_939 : decode cL_law 939 = .ok (.invokevirtual 121, 3) := by decide +kernel
theorem dL_law_942 : decode cL_law 942 = .ok (.aload_n 2, 1) := by decide +kernel
theorem dL_law_943 : decode cL_law 943 = .ok (.aload_n 0, 1) := by decide +kernel
theorem dL_law_944 : decode cL_law 944 = .ok (.iload_n 3, 1) := by decide +kernel
theorem dL_law_945 : decode cL_law 945 = .ok (.iconst 1, 1) := by decide +kernel
theorem dL_law_946 : decode cL_law 946 = .ok (.iadd, 1) := by decide +kernel
theorem dL_law_947 : decode cL_law 947 = .ok (.iaload, 1) := by decide +kernel
theorem dL_law_948 : decode cL_law 948 = .ok (.invokevirtual 124, 3) := by decide +kernel
theorem dL_law_951 : decode cL_law 951 = .ok (.if_icmp .eq 51, 3) := by decide +kernel
theorem dL_law_954 : decode cL_law 954 = .ok (.iconst 0, 1) := by decide +kernel
theorem dL_law_955 : decode cL_law 955 = .ok (.ireturn, 1) := by decide +kernel
theorem dL_law_956 : decode cL_law 956 = .ok (.aload_n 1, 1) := by decide +kernel
theorem dL_law_957 : decode cL_law 957 = .ok (.aload_n 0, 1) := by decide +kernel
theorem dL_law_958 : decode cL_law 958 = .ok (.iload_n 3, 1) := by decide +kernel
theorem dL_law_959 : decode cL_law 959 = .ok (.iconst 1, 1) := by decide +kernel
theorem dL_law_960 : decode cL_law 960 = .ok (.iadd, 1) := by decide +kernel
theorem dL_law_961 : decode cL_law 961 = .ok (.iaload, 1) := by decide +kernel
theorem dL_law_962 : decode cL_law 962 = .ok (.invokevirtual 125, 3) := by decide +kernel
theorem dL_law_965 : decode cL_law 965 = .ok (.aload_n 2, 1) := by decide +kernel
theorem dL_law_966 : decode cL_law 966 = .ok (.aload_n 0, 1) := by decide +kernel
theorem dL_law_967 : decode cL_law 967 = .ok (.iload_n 3, 1) := by decide +kernel
theorem dL_law_968 : decode cL_law 968 = .ok (.iconst 1, 1) := by decide +kernel
theorem dL_law_969 : decode cL_law 969 = .ok (.iadd, 1) := by decide +kernel
theorem dL_law_970 : decode cL_law 970 = .ok (.iaload, 1) := by decide +kernel
theorem dL_law_971 : decode cL_law 971 = .ok (.invokevirtual 128, 3) := by decide +kernel
theorem dL_law_974 : decode cL_law 974 = .ok (.if_icmp .eq 28, 3) := by decide +kernel
theorem dL_law_977 : decode cL_law 977 = .ok (.iconst 0, 1) := by decide +kernel
theorem dL_law_978 : decode cL_law 978 = .ok (.ireturn, 1) := by decide +kernel
theorem dL_law_979 : decode cL_law 979 = .ok (.aload_n 1, 1) := by decide +kernel
theorem dL_law_980 : decode cL_law 980 = .ok (.aload_n 0, 1) := by decide +kernel
theorem dL_law_981 : decode cL_law 981 = .ok (.iload_n 3, 1) := by decide +kernel
theorem dL_law_982 : decode cL_law 982 = .ok (.iconst 1, 1) := by decide +kernel
theorem dL_law_983 : decode cL_law 983 = .ok (.iadd, 1) := by decide +kernel
theorem dL_law_984 : decode cL_law 984 = .ok (.iaload, 1) := by decide +kernel
theorem dL_law_985 : decode cL_law 985 = .ok (.invokevirtual 129, 3) := by decide +kernel
theorem dL_law_988 : decode cL_law 988 = .ok (.aload_n 2, 1) := by decide +kernel
theorem dL_law_989 : decode cL_law 989 = .ok (.aload_n 0, 1) := by decide +kernel
theorem dL_law_990 : decode cL_law 990 = .ok (.iload_n 3, 1) := by decide +kernel
theorem dL_law_991 : decode cL_law 991 = .ok (.iconst 1, 1) := by decide +kernel
theorem dL_law_992 : decode cL_law 992 = .ok (.iadd, 1) := by decide +kernel
theorem dL_law_993 : decode cL_law 993 = .ok (.iaload, 1) := by decide +kernel
theorem dL_law_994 : decode cL_law 994 = .ok (.invokevirtual 132, 3) := by decide +kernel
theorem dL_law_997 : decode cL_law 997 = .ok (.if_icmp .eq 5, 3) := by decide +kernel
theorem dL_law_1000 : decode cL_law 1000 = .ok (.iconst 0, 1) := by decide +kernel
theorem dL_law_1001 : decode cL_law 1001 = .ok (.ireturn, 1) := by decide +kernel
theorem dL_law_1002 : decode cL_law 1002 = .ok (.iinc 3 6, 3) := by decide +kernel
theorem dL_law_1005 : decode cL_law 1005 = .ok (.goto (-987), 3) := by decide +kernel
theorem dL_law_1008 : decode cL_law 1008 = .ok (.iconst 1, 1) := by decide +kernel
theorem dL_law_1009 : decode cL_law 1009 = .ok (.ireturn, 1) := by decide +kernel
