-- ===== PART A: goes FIRST, ahead of the names: the tables' words, and 'selects' of the private methods out of them =====
/-- a private method of a class that the tables say can be made, by its rows of tables_1 -/
def lw_okq (q : MethodName × Nat) : Prop := (q.1.cls ≠ "java/lang/invoke/MethodHandle" ∧ q.1.cls ≠ "java/lang/invoke/VarHandle") ∧ Cond.instantiable q.1.cls q.2 ∈ tables_1 ∧ Cond.privateMethod q.1 ∈ tables_1 ∧ Cond.instanceMethod q.1 ∈ tables_1
theorem lw_p0 : lw_okq (⟨"FrameCounty$Roads", "measure", "([[II)V"⟩, 3) := ⟨⟨by decide +kernel, by decide +kernel⟩, List.mem_of_getElem? (i := 30) (by decide +kernel), List.mem_of_getElem? (i := 41) (by decide +kernel), List.mem_of_getElem? (i := 42) (by decide +kernel)⟩
theorem lw_p1 : lw_okq (⟨"FrameCounty$Reader", "cutIntoTokens", "()V"⟩, 9) := ⟨⟨by decide +kernel, by decide +kernel⟩, List.mem_of_getElem? (i := 250) (by decide +kernel), List.mem_of_getElem? (i := 362) (by decide +kernel), List.mem_of_getElem? (i := 363) (by decide +kernel)⟩
theorem lw_p2 : lw_okq (⟨"FrameCounty$Reader", "stretchEnd", "(II)I"⟩, 9) := ⟨⟨by decide +kernel, by decide +kernel⟩, List.mem_of_getElem? (i := 250) (by decide +kernel), List.mem_of_getElem? (i := 366) (by decide +kernel), List.mem_of_getElem? (i := 367) (by decide +kernel)⟩
theorem lw_p3 : lw_okq (⟨"FrameCounty$Reader", "tokenOf", "(II)I"⟩, 9) := ⟨⟨by decide +kernel, by decide +kernel⟩, List.mem_of_getElem? (i := 250) (by decide +kernel), List.mem_of_getElem? (i := 377) (by decide +kernel), List.mem_of_getElem? (i := 378) (by decide +kernel)⟩
theorem lw_p4 : lw_okq (⟨"FrameCounty$Reader", "wordOf", "(II)I"⟩, 9) := ⟨⟨by decide +kernel, by decide +kernel⟩, List.mem_of_getElem? (i := 250) (by decide +kernel), List.mem_of_getElem? (i := 381) (by decide +kernel), List.mem_of_getElem? (i := 382) (by decide +kernel)⟩
theorem lw_p5 : lw_okq (⟨"FrameCounty$Reader", "stands", "(Ljava/lang/String;II)Z"⟩, 9) := ⟨⟨by decide +kernel, by decide +kernel⟩, List.mem_of_getElem? (i := 250) (by decide +kernel), List.mem_of_getElem? (i := 399) (by decide +kernel), List.mem_of_getElem? (i := 400) (by decide +kernel)⟩
theorem lw_p6 : lw_okq (⟨"FrameCounty$Reader", "numberOf", "(II)I"⟩, 9) := ⟨⟨by decide +kernel, by decide +kernel⟩, List.mem_of_getElem? (i := 250) (by decide +kernel), List.mem_of_getElem? (i := 403) (by decide +kernel), List.mem_of_getElem? (i := 404) (by decide +kernel)⟩
theorem lw_p7 : lw_okq (⟨"FrameCounty$Reader", "expect", "(I)V"⟩, 9) := ⟨⟨by decide +kernel, by decide +kernel⟩, List.mem_of_getElem? (i := 250) (by decide +kernel), List.mem_of_getElem? (i := 411) (by decide +kernel), List.mem_of_getElem? (i := 412) (by decide +kernel)⟩
theorem lw_p8 : lw_okq (⟨"FrameCounty$Reader", "token", "()I"⟩, 9) := ⟨⟨by decide +kernel, by decide +kernel⟩, List.mem_of_getElem? (i := 250) (by decide +kernel), List.mem_of_getElem? (i := 415) (by decide +kernel), List.mem_of_getElem? (i := 416) (by decide +kernel)⟩
theorem lw_p9 : lw_okq (⟨"FrameCounty$Reader", "fail", "()V"⟩, 9) := ⟨⟨by decide +kernel, by decide +kernel⟩, List.mem_of_getElem? (i := 250) (by decide +kernel), List.mem_of_getElem? (i := 419) (by decide +kernel), List.mem_of_getElem? (i := 420) (by decide +kernel)⟩
theorem lw_p10 : lw_okq (⟨"FrameCounty$Reader", "readOr", "(I)V"⟩, 9) := ⟨⟨by decide +kernel, by decide +kernel⟩, List.mem_of_getElem? (i := 250) (by decide +kernel), List.mem_of_getElem? (i := 423) (by decide +kernel), List.mem_of_getElem? (i := 424) (by decide +kernel)⟩
theorem lw_p11 : lw_okq (⟨"FrameCounty$Reader", "readAnd", "(I)V"⟩, 9) := ⟨⟨by decide +kernel, by decide +kernel⟩, List.mem_of_getElem? (i := 250) (by decide +kernel), List.mem_of_getElem? (i := 427) (by decide +kernel), List.mem_of_getElem? (i := 428) (by decide +kernel)⟩
theorem lw_p12 : lw_okq (⟨"FrameCounty$Reader", "readNot", "(I)V"⟩, 9) := ⟨⟨by decide +kernel, by decide +kernel⟩, List.mem_of_getElem? (i := 250) (by decide +kernel), List.mem_of_getElem? (i := 431) (by decide +kernel), List.mem_of_getElem? (i := 432) (by decide +kernel)⟩
theorem lw_p13 : lw_okq (⟨"FrameCounty$Reader", "mayOpen", "(I)Z"⟩, 9) := ⟨⟨by decide +kernel, by decide +kernel⟩, List.mem_of_getElem? (i := 250) (by decide +kernel), List.mem_of_getElem? (i := 435) (by decide +kernel), List.mem_of_getElem? (i := 436) (by decide +kernel)⟩
theorem lw_p14 : lw_okq (⟨"FrameCounty$Reader", "readSum", "(I)V"⟩, 9) := ⟨⟨by decide +kernel, by decide +kernel⟩, List.mem_of_getElem? (i := 250) (by decide +kernel), List.mem_of_getElem? (i := 443) (by decide +kernel), List.mem_of_getElem? (i := 444) (by decide +kernel)⟩
theorem lw_p15 : lw_okq (⟨"FrameCounty$Reader", "readTerm", "(I)V"⟩, 9) := ⟨⟨by decide +kernel, by decide +kernel⟩, List.mem_of_getElem? (i := 250) (by decide +kernel), List.mem_of_getElem? (i := 447) (by decide +kernel), List.mem_of_getElem? (i := 448) (by decide +kernel)⟩
def lw_privs_1 : List (MethodName × Nat) := [(⟨"FrameCounty$Roads", "measure", "([[II)V"⟩, 3), (⟨"FrameCounty$Reader", "cutIntoTokens", "()V"⟩, 9), (⟨"FrameCounty$Reader", "stretchEnd", "(II)I"⟩, 9), (⟨"FrameCounty$Reader", "tokenOf", "(II)I"⟩, 9), (⟨"FrameCounty$Reader", "wordOf", "(II)I"⟩, 9), (⟨"FrameCounty$Reader", "stands", "(Ljava/lang/String;II)Z"⟩, 9), (⟨"FrameCounty$Reader", "numberOf", "(II)I"⟩, 9), (⟨"FrameCounty$Reader", "expect", "(I)V"⟩, 9), (⟨"FrameCounty$Reader", "token", "()I"⟩, 9), (⟨"FrameCounty$Reader", "fail", "()V"⟩, 9), (⟨"FrameCounty$Reader", "readOr", "(I)V"⟩, 9), (⟨"FrameCounty$Reader", "readAnd", "(I)V"⟩, 9), (⟨"FrameCounty$Reader", "readNot", "(I)V"⟩, 9), (⟨"FrameCounty$Reader", "mayOpen", "(I)Z"⟩, 9), (⟨"FrameCounty$Reader", "readSum", "(I)V"⟩, 9), (⟨"FrameCounty$Reader", "readTerm", "(I)V"⟩, 9)]
theorem lw_r1 : ∀ q ∈ lw_privs_1, lw_okq q := List.forall_mem_cons.mpr ⟨lw_p0, List.forall_mem_cons.mpr ⟨lw_p1, List.forall_mem_cons.mpr ⟨lw_p2, List.forall_mem_cons.mpr ⟨lw_p3, List.forall_mem_cons.mpr ⟨lw_p4, List.forall_mem_cons.mpr ⟨lw_p5, List.forall_mem_cons.mpr ⟨lw_p6, List.forall_mem_cons.mpr ⟨lw_p7, List.forall_mem_cons.mpr ⟨lw_p8, List.forall_mem_cons.mpr ⟨lw_p9, List.forall_mem_cons.mpr ⟨lw_p10, List.forall_mem_cons.mpr ⟨lw_p11, List.forall_mem_cons.mpr ⟨lw_p12, List.forall_mem_cons.mpr ⟨lw_p13, List.forall_mem_cons.mpr ⟨lw_p14, List.forall_mem_cons.mpr ⟨lw_p15, fun _ h => absurd h List.not_mem_nil⟩⟩⟩⟩⟩⟩⟩⟩⟩⟩⟩⟩⟩⟩⟩⟩
theorem lw_p16 : lw_okq (⟨"FrameCounty$Reader", "readOne", "(I)V"⟩, 9) := ⟨⟨by decide +kernel, by decide +kernel⟩, List.mem_of_getElem? (i := 250) (by decide +kernel), List.mem_of_getElem? (i := 451) (by decide +kernel), List.mem_of_getElem? (i := 452) (by decide +kernel)⟩
theorem lw_p17 : lw_okq (⟨"FrameCounty$Works", "makes", "(I)I"⟩, 10) := ⟨⟨by decide +kernel, by decide +kernel⟩, List.mem_of_getElem? (i := 59) (by decide +kernel), List.mem_of_getElem? (i := 588) (by decide +kernel), List.mem_of_getElem? (i := 589) (by decide +kernel)⟩
theorem lw_p18 : lw_okq (⟨"FrameCounty$Works", "earned", "(I)I"⟩, 10) := ⟨⟨by decide +kernel, by decide +kernel⟩, List.mem_of_getElem? (i := 59) (by decide +kernel), List.mem_of_getElem? (i := 596) (by decide +kernel), List.mem_of_getElem? (i := 597) (by decide +kernel)⟩
theorem lw_p19 : lw_okq (⟨"FrameCounty", "priceOf", "(I)I"⟩, 14) := ⟨⟨by decide +kernel, by decide +kernel⟩, List.mem_of_getElem? (i := 22) (by decide +kernel), List.mem_of_getElem? (i := 630) (by decide +kernel), List.mem_of_getElem? (i := 631) (by decide +kernel)⟩
theorem lw_p20 : lw_okq (⟨"FrameCounty$Text", "work", "(II[I)I"⟩, 4) := ⟨⟨by decide +kernel, by decide +kernel⟩, List.mem_of_getElem? (i := 286) (by decide +kernel), List.mem_of_getElem? (i := 648) (by decide +kernel), List.mem_of_getElem? (i := 649) (by decide +kernel)⟩
theorem lw_p21 : lw_okq (⟨"FrameCounty$Watch", "isPossibleAt", "(III)Z"⟩, 16) := ⟨⟨by decide +kernel, by decide +kernel⟩, List.mem_of_getElem? (i := 118) (by decide +kernel), List.mem_of_getElem? (i := 702) (by decide +kernel), List.mem_of_getElem? (i := 703) (by decide +kernel)⟩
theorem lw_p22 : lw_okq (⟨"FrameCounty", "holdOf", "(IIII)I"⟩, 14) := ⟨⟨by decide +kernel, by decide +kernel⟩, List.mem_of_getElem? (i := 22) (by decide +kernel), List.mem_of_getElem? (i := 735) (by decide +kernel), List.mem_of_getElem? (i := 736) (by decide +kernel)⟩
theorem lw_p23 : lw_okq (⟨"FrameCounty$Works", "shopsWith", "(I)I"⟩, 10) := ⟨⟨by decide +kernel, by decide +kernel⟩, List.mem_of_getElem? (i := 59) (by decide +kernel), List.mem_of_getElem? (i := 788) (by decide +kernel), List.mem_of_getElem? (i := 789) (by decide +kernel)⟩
theorem lw_p24 : lw_okq (⟨"FrameCounty$Works", "fits", "(II)Z"⟩, 10) := ⟨⟨by decide +kernel, by decide +kernel⟩, List.mem_of_getElem? (i := 59) (by decide +kernel), List.mem_of_getElem? (i := 800) (by decide +kernel), List.mem_of_getElem? (i := 801) (by decide +kernel)⟩
theorem lw_p25 : lw_okq (⟨"FrameCounty$Works", "fieldOf", "(II)I"⟩, 10) := ⟨⟨by decide +kernel, by decide +kernel⟩, List.mem_of_getElem? (i := 59) (by decide +kernel), List.mem_of_getElem? (i := 804) (by decide +kernel), List.mem_of_getElem? (i := 805) (by decide +kernel)⟩
theorem lw_p26 : lw_okq (⟨"FrameCounty$Works", "wholeThatFit", "(II)I"⟩, 10) := ⟨⟨by decide +kernel, by decide +kernel⟩, List.mem_of_getElem? (i := 59) (by decide +kernel), List.mem_of_getElem? (i := 820) (by decide +kernel), List.mem_of_getElem? (i := 821) (by decide +kernel)⟩
theorem lw_p27 : lw_okq (⟨"FrameCounty", "isPast", "(I)Z"⟩, 14) := ⟨⟨by decide +kernel, by decide +kernel⟩, List.mem_of_getElem? (i := 22) (by decide +kernel), List.mem_of_getElem? (i := 836) (by decide +kernel), List.mem_of_getElem? (i := 837) (by decide +kernel)⟩
theorem lw_p28 : lw_okq (⟨"FrameCounty", "heldWithout", "(II)I"⟩, 14) := ⟨⟨by decide +kernel, by decide +kernel⟩, List.mem_of_getElem? (i := 22) (by decide +kernel), List.mem_of_getElem? (i := 885) (by decide +kernel), List.mem_of_getElem? (i := 886) (by decide +kernel)⟩
theorem lw_p29 : lw_okq (⟨"FrameCounty$Oaths", "takersReachedFrom", "(II)I"⟩, 6) := ⟨⟨by decide +kernel, by decide +kernel⟩, List.mem_of_getElem? (i := 173) (by decide +kernel), List.mem_of_getElem? (i := 929) (by decide +kernel), List.mem_of_getElem? (i := 930) (by decide +kernel)⟩
theorem lw_p30 : lw_okq (⟨"FrameCounty$Oaths", "takersReachedBySet", "(II)I"⟩, 6) := ⟨⟨by decide +kernel, by decide +kernel⟩, List.mem_of_getElem? (i := 173) (by decide +kernel), List.mem_of_getElem? (i := 935) (by decide +kernel), List.mem_of_getElem? (i := 936) (by decide +kernel)⟩
theorem lw_p31 : lw_okq (⟨"FrameCounty", "shopsReached", "(III)I"⟩, 14) := ⟨⟨by decide +kernel, by decide +kernel⟩, List.mem_of_getElem? (i := 22) (by decide +kernel), List.mem_of_getElem? (i := 943) (by decide +kernel), List.mem_of_getElem? (i := 944) (by decide +kernel)⟩
def lw_privs_2 : List (MethodName × Nat) := [(⟨"FrameCounty$Reader", "readOne", "(I)V"⟩, 9), (⟨"FrameCounty$Works", "makes", "(I)I"⟩, 10), (⟨"FrameCounty$Works", "earned", "(I)I"⟩, 10), (⟨"FrameCounty", "priceOf", "(I)I"⟩, 14), (⟨"FrameCounty$Text", "work", "(II[I)I"⟩, 4), (⟨"FrameCounty$Watch", "isPossibleAt", "(III)Z"⟩, 16), (⟨"FrameCounty", "holdOf", "(IIII)I"⟩, 14), (⟨"FrameCounty$Works", "shopsWith", "(I)I"⟩, 10), (⟨"FrameCounty$Works", "fits", "(II)Z"⟩, 10), (⟨"FrameCounty$Works", "fieldOf", "(II)I"⟩, 10), (⟨"FrameCounty$Works", "wholeThatFit", "(II)I"⟩, 10), (⟨"FrameCounty", "isPast", "(I)Z"⟩, 14), (⟨"FrameCounty", "heldWithout", "(II)I"⟩, 14), (⟨"FrameCounty$Oaths", "takersReachedFrom", "(II)I"⟩, 6), (⟨"FrameCounty$Oaths", "takersReachedBySet", "(II)I"⟩, 6), (⟨"FrameCounty", "shopsReached", "(III)I"⟩, 14)]
theorem lw_r2 : ∀ q ∈ lw_privs_2, lw_okq q := List.forall_mem_cons.mpr ⟨lw_p16, List.forall_mem_cons.mpr ⟨lw_p17, List.forall_mem_cons.mpr ⟨lw_p18, List.forall_mem_cons.mpr ⟨lw_p19, List.forall_mem_cons.mpr ⟨lw_p20, List.forall_mem_cons.mpr ⟨lw_p21, List.forall_mem_cons.mpr ⟨lw_p22, List.forall_mem_cons.mpr ⟨lw_p23, List.forall_mem_cons.mpr ⟨lw_p24, List.forall_mem_cons.mpr ⟨lw_p25, List.forall_mem_cons.mpr ⟨lw_p26, List.forall_mem_cons.mpr ⟨lw_p27, List.forall_mem_cons.mpr ⟨lw_p28, List.forall_mem_cons.mpr ⟨lw_p29, List.forall_mem_cons.mpr ⟨lw_p30, List.forall_mem_cons.mpr ⟨lw_p31, fun _ h => absurd h List.not_mem_nil⟩⟩⟩⟩⟩⟩⟩⟩⟩⟩⟩⟩⟩⟩⟩⟩
theorem lw_p32 : lw_okq (⟨"FrameCounty$Bargain", "goesTogether", "(I)Z"⟩, 4) := ⟨⟨by decide +kernel, by decide +kernel⟩, List.mem_of_getElem? (i := 199) (by decide +kernel), List.mem_of_getElem? (i := 986) (by decide +kernel), List.mem_of_getElem? (i := 987) (by decide +kernel)⟩
theorem lw_p33 : lw_okq (⟨"FrameCounty$Bargain", "worth", "([II)I"⟩, 4) := ⟨⟨by decide +kernel, by decide +kernel⟩, List.mem_of_getElem? (i := 199) (by decide +kernel), List.mem_of_getElem? (i := 990) (by decide +kernel), List.mem_of_getElem? (i := 991) (by decide +kernel)⟩
theorem lw_p34 : lw_okq (⟨"FrameCounty$Bargain", "isBetter", "(II)Z"⟩, 4) := ⟨⟨by decide +kernel, by decide +kernel⟩, List.mem_of_getElem? (i := 199) (by decide +kernel), List.mem_of_getElem? (i := 994) (by decide +kernel), List.mem_of_getElem? (i := 995) (by decide +kernel)⟩
theorem lw_p35 : lw_okq (⟨"FrameCounty$Weeks", "broken", "(III)I"⟩, 2) := ⟨⟨by decide +kernel, by decide +kernel⟩, List.mem_of_getElem? (i := 218) (by decide +kernel), List.mem_of_getElem? (i := 1024) (by decide +kernel), List.mem_of_getElem? (i := 1025) (by decide +kernel)⟩
theorem lw_p36 : lw_okq (⟨"FrameCountyModel", "list0", "()V"⟩, 67) := ⟨⟨by decide +kernel, by decide +kernel⟩, List.mem_of_getElem? (i := 1149) (by decide +kernel), List.mem_of_getElem? (i := 1155) (by decide +kernel), List.mem_of_getElem? (i := 1156) (by decide +kernel)⟩
theorem lw_p37 : lw_okq (⟨"FrameCountyModel", "puts", "(II)V"⟩, 67) := ⟨⟨by decide +kernel, by decide +kernel⟩, List.mem_of_getElem? (i := 1149) (by decide +kernel), List.mem_of_getElem? (i := 1159) (by decide +kernel), List.mem_of_getElem? (i := 1160) (by decide +kernel)⟩
theorem lw_p38 : lw_okq (⟨"FrameCountyModel", "findFar", "(I)V"⟩, 67) := ⟨⟨by decide +kernel, by decide +kernel⟩, List.mem_of_getElem? (i := 1149) (by decide +kernel), List.mem_of_getElem? (i := 1389) (by decide +kernel), List.mem_of_getElem? (i := 1390) (by decide +kernel)⟩
theorem lw_p39 : lw_okq (⟨"FrameCountyModel", "isShop", "(I)Z"⟩, 67) := ⟨⟨by decide +kernel, by decide +kernel⟩, List.mem_of_getElem? (i := 1149) (by decide +kernel), List.mem_of_getElem? (i := 1404) (by decide +kernel), List.mem_of_getElem? (i := 1405) (by decide +kernel)⟩
theorem lw_p40 : lw_okq (⟨"FrameCountyModel", "isFrame", "(I)Z"⟩, 67) := ⟨⟨by decide +kernel, by decide +kernel⟩, List.mem_of_getElem? (i := 1149) (by decide +kernel), List.mem_of_getElem? (i := 1418) (by decide +kernel), List.mem_of_getElem? (i := 1419) (by decide +kernel)⟩
theorem lw_p41 : lw_okq (⟨"FrameCountyModel", "makes", "(I)I"⟩, 67) := ⟨⟨by decide +kernel, by decide +kernel⟩, List.mem_of_getElem? (i := 1149) (by decide +kernel), List.mem_of_getElem? (i := 1423) (by decide +kernel), List.mem_of_getElem? (i := 1424) (by decide +kernel)⟩
theorem lw_p42 : lw_okq (⟨"FrameCountyModel", "paidRent", "(I)I"⟩, 67) := ⟨⟨by decide +kernel, by decide +kernel⟩, List.mem_of_getElem? (i := 1149) (by decide +kernel), List.mem_of_getElem? (i := 1427) (by decide +kernel), List.mem_of_getElem? (i := 1428) (by decide +kernel)⟩
theorem lw_p43 : lw_okq (⟨"FrameCountyModel", "earned", "(I)I"⟩, 67) := ⟨⟨by decide +kernel, by decide +kernel⟩, List.mem_of_getElem? (i := 1149) (by decide +kernel), List.mem_of_getElem? (i := 1431) (by decide +kernel), List.mem_of_getElem? (i := 1432) (by decide +kernel)⟩
theorem lw_p44 : lw_okq (⟨"FrameCountyModel", "price", "(I)I"⟩, 67) := ⟨⟨by decide +kernel, by decide +kernel⟩, List.mem_of_getElem? (i := 1149) (by decide +kernel), List.mem_of_getElem? (i := 1444) (by decide +kernel), List.mem_of_getElem? (i := 1445) (by decide +kernel)⟩
theorem lw_p45 : lw_okq (⟨"FrameCountyModel", "comesTo", "(I)I"⟩, 67) := ⟨⟨by decide +kernel, by decide +kernel⟩, List.mem_of_getElem? (i := 1149) (by decide +kernel), List.mem_of_getElem? (i := 1448) (by decide +kernel), List.mem_of_getElem? (i := 1449) (by decide +kernel)⟩
theorem lw_p46 : lw_okq (⟨"FrameCountyModel", "isText", "()Z"⟩, 67) := ⟨⟨by decide +kernel, by decide +kernel⟩, List.mem_of_getElem? (i := 1149) (by decide +kernel), List.mem_of_getElem? (i := 1468) (by decide +kernel), List.mem_of_getElem? (i := 1469) (by decide +kernel)⟩
theorem lw_p47 : lw_okq (⟨"FrameCountyModel", "reads", "()V"⟩, 67) := ⟨⟨by decide +kernel, by decide +kernel⟩, List.mem_of_getElem? (i := 1149) (by decide +kernel), List.mem_of_getElem? (i := 1472) (by decide +kernel), List.mem_of_getElem? (i := 1473) (by decide +kernel)⟩
def lw_privs_3 : List (MethodName × Nat) := [(⟨"FrameCounty$Bargain", "goesTogether", "(I)Z"⟩, 4), (⟨"FrameCounty$Bargain", "worth", "([II)I"⟩, 4), (⟨"FrameCounty$Bargain", "isBetter", "(II)Z"⟩, 4), (⟨"FrameCounty$Weeks", "broken", "(III)I"⟩, 2), (⟨"FrameCountyModel", "list0", "()V"⟩, 67), (⟨"FrameCountyModel", "puts", "(II)V"⟩, 67), (⟨"FrameCountyModel", "findFar", "(I)V"⟩, 67), (⟨"FrameCountyModel", "isShop", "(I)Z"⟩, 67), (⟨"FrameCountyModel", "isFrame", "(I)Z"⟩, 67), (⟨"FrameCountyModel", "makes", "(I)I"⟩, 67), (⟨"FrameCountyModel", "paidRent", "(I)I"⟩, 67), (⟨"FrameCountyModel", "earned", "(I)I"⟩, 67), (⟨"FrameCountyModel", "price", "(I)I"⟩, 67), (⟨"FrameCountyModel", "comesTo", "(I)I"⟩, 67), (⟨"FrameCountyModel", "isText", "()Z"⟩, 67), (⟨"FrameCountyModel", "reads", "()V"⟩, 67)]
theorem lw_r3 : ∀ q ∈ lw_privs_3, lw_okq q := List.forall_mem_cons.mpr ⟨lw_p32, List.forall_mem_cons.mpr ⟨lw_p33, List.forall_mem_cons.mpr ⟨lw_p34, List.forall_mem_cons.mpr ⟨lw_p35, List.forall_mem_cons.mpr ⟨lw_p36, List.forall_mem_cons.mpr ⟨lw_p37, List.forall_mem_cons.mpr ⟨lw_p38, List.forall_mem_cons.mpr ⟨lw_p39, List.forall_mem_cons.mpr ⟨lw_p40, List.forall_mem_cons.mpr ⟨lw_p41, List.forall_mem_cons.mpr ⟨lw_p42, List.forall_mem_cons.mpr ⟨lw_p43, List.forall_mem_cons.mpr ⟨lw_p44, List.forall_mem_cons.mpr ⟨lw_p45, List.forall_mem_cons.mpr ⟨lw_p46, List.forall_mem_cons.mpr ⟨lw_p47, fun _ h => absurd h List.not_mem_nil⟩⟩⟩⟩⟩⟩⟩⟩⟩⟩⟩⟩⟩⟩⟩⟩
theorem lw_p48 : lw_okq (⟨"FrameCountyModel", "word", "()I"⟩, 67) := ⟨⟨by decide +kernel, by decide +kernel⟩, List.mem_of_getElem? (i := 1149) (by decide +kernel), List.mem_of_getElem? (i := 1482) (by decide +kernel), List.mem_of_getElem? (i := 1483) (by decide +kernel)⟩
theorem lw_p49 : lw_okq (⟨"FrameCountyModel", "isWord", "(JI)Z"⟩, 67) := ⟨⟨by decide +kernel, by decide +kernel⟩, List.mem_of_getElem? (i := 1149) (by decide +kernel), List.mem_of_getElem? (i := 1487) (by decide +kernel), List.mem_of_getElem? (i := 1488) (by decide +kernel)⟩
theorem lw_p50 : lw_okq (⟨"FrameCountyModel", "parses", "()Z"⟩, 67) := ⟨⟨by decide +kernel, by decide +kernel⟩, List.mem_of_getElem? (i := 1149) (by decide +kernel), List.mem_of_getElem? (i := 1501) (by decide +kernel), List.mem_of_getElem? (i := 1502) (by decide +kernel)⟩
theorem lw_p51 : lw_okq (⟨"FrameCountyModel", "waits", "(I)V"⟩, 67) := ⟨⟨by decide +kernel, by decide +kernel⟩, List.mem_of_getElem? (i := 1149) (by decide +kernel), List.mem_of_getElem? (i := 1505) (by decide +kernel), List.mem_of_getElem? (i := 1506) (by decide +kernel)⟩
theorem lw_p52 : lw_okq (⟨"FrameCountyModel", "works", "(I)V"⟩, 67) := ⟨⟨by decide +kernel, by decide +kernel⟩, List.mem_of_getElem? (i := 1149) (by decide +kernel), List.mem_of_getElem? (i := 1509) (by decide +kernel), List.mem_of_getElem? (i := 1510) (by decide +kernel)⟩
theorem lw_p53 : lw_okq (⟨"FrameCountyModel", "isPerson", "(I)Z"⟩, 67) := ⟨⟨by decide +kernel, by decide +kernel⟩, List.mem_of_getElem? (i := 1149) (by decide +kernel), List.mem_of_getElem? (i := 1521) (by decide +kernel), List.mem_of_getElem? (i := 1522) (by decide +kernel)⟩
theorem lw_p54 : lw_okq (⟨"FrameCountyModel", "hold", "(III)I"⟩, 67) := ⟨⟨by decide +kernel, by decide +kernel⟩, List.mem_of_getElem? (i := 1149) (by decide +kernel), List.mem_of_getElem? (i := 1525) (by decide +kernel), List.mem_of_getElem? (i := 1526) (by decide +kernel)⟩
theorem lw_p55 : lw_okq (⟨"FrameCountyModel", "isFalse", "(II)Z"⟩, 67) := ⟨⟨by decide +kernel, by decide +kernel⟩, List.mem_of_getElem? (i := 1149) (by decide +kernel), List.mem_of_getElem? (i := 1529) (by decide +kernel), List.mem_of_getElem? (i := 1530) (by decide +kernel)⟩
theorem lw_p56 : lw_okq (⟨"FrameCountyModel", "couldRaid", "(III)Z"⟩, 67) := ⟨⟨by decide +kernel, by decide +kernel⟩, List.mem_of_getElem? (i := 1149) (by decide +kernel), List.mem_of_getElem? (i := 1533) (by decide +kernel), List.mem_of_getElem? (i := 1534) (by decide +kernel)⟩
theorem lw_p57 : lw_okq (⟨"FrameCountyModel", "could", "(IIIII)Z"⟩, 67) := ⟨⟨by decide +kernel, by decide +kernel⟩, List.mem_of_getElem? (i := 1149) (by decide +kernel), List.mem_of_getElem? (i := 1537) (by decide +kernel), List.mem_of_getElem? (i := 1538) (by decide +kernel)⟩
theorem lw_p58 : lw_okq (⟨"FrameCountyModel", "struck", "()I"⟩, 67) := ⟨⟨by decide +kernel, by decide +kernel⟩, List.mem_of_getElem? (i := 1149) (by decide +kernel), List.mem_of_getElem? (i := 1553) (by decide +kernel), List.mem_of_getElem? (i := 1554) (by decide +kernel)⟩
theorem lw_p59 : lw_okq (⟨"FrameCountyModel", "isStruck", "(I)Z"⟩, 67) := ⟨⟨by decide +kernel, by decide +kernel⟩, List.mem_of_getElem? (i := 1149) (by decide +kernel), List.mem_of_getElem? (i := 1557) (by decide +kernel), List.mem_of_getElem? (i := 1558) (by decide +kernel)⟩
theorem lw_p60 : lw_okq (⟨"FrameCountyModel", "spared", "()I"⟩, 67) := ⟨⟨by decide +kernel, by decide +kernel⟩, List.mem_of_getElem? (i := 1149) (by decide +kernel), List.mem_of_getElem? (i := 1561) (by decide +kernel), List.mem_of_getElem? (i := 1562) (by decide +kernel)⟩
theorem lw_p61 : lw_okq (⟨"FrameCountyModel", "hasStruck", "(I)Z"⟩, 67) := ⟨⟨by decide +kernel, by decide +kernel⟩, List.mem_of_getElem? (i := 1149) (by decide +kernel), List.mem_of_getElem? (i := 1565) (by decide +kernel), List.mem_of_getElem? (i := 1566) (by decide +kernel)⟩
theorem lw_p62 : lw_okq (⟨"FrameCountyModel", "isLeft", "(III)Z"⟩, 67) := ⟨⟨by decide +kernel, by decide +kernel⟩, List.mem_of_getElem? (i := 1149) (by decide +kernel), List.mem_of_getElem? (i := 1573) (by decide +kernel), List.mem_of_getElem? (i := 1574) (by decide +kernel)⟩
theorem lw_p63 : lw_okq (⟨"FrameCountyModel", "fits", "(II)Z"⟩, 67) := ⟨⟨by decide +kernel, by decide +kernel⟩, List.mem_of_getElem? (i := 1149) (by decide +kernel), List.mem_of_getElem? (i := 1577) (by decide +kernel), List.mem_of_getElem? (i := 1578) (by decide +kernel)⟩
def lw_privs_4 : List (MethodName × Nat) := [(⟨"FrameCountyModel", "word", "()I"⟩, 67), (⟨"FrameCountyModel", "isWord", "(JI)Z"⟩, 67), (⟨"FrameCountyModel", "parses", "()Z"⟩, 67), (⟨"FrameCountyModel", "waits", "(I)V"⟩, 67), (⟨"FrameCountyModel", "works", "(I)V"⟩, 67), (⟨"FrameCountyModel", "isPerson", "(I)Z"⟩, 67), (⟨"FrameCountyModel", "hold", "(III)I"⟩, 67), (⟨"FrameCountyModel", "isFalse", "(II)Z"⟩, 67), (⟨"FrameCountyModel", "couldRaid", "(III)Z"⟩, 67), (⟨"FrameCountyModel", "could", "(IIIII)Z"⟩, 67), (⟨"FrameCountyModel", "struck", "()I"⟩, 67), (⟨"FrameCountyModel", "isStruck", "(I)Z"⟩, 67), (⟨"FrameCountyModel", "spared", "()I"⟩, 67), (⟨"FrameCountyModel", "hasStruck", "(I)Z"⟩, 67), (⟨"FrameCountyModel", "isLeft", "(III)Z"⟩, 67), (⟨"FrameCountyModel", "fits", "(II)Z"⟩, 67)]
theorem lw_r4 : ∀ q ∈ lw_privs_4, lw_okq q := List.forall_mem_cons.mpr ⟨lw_p48, List.forall_mem_cons.mpr ⟨lw_p49, List.forall_mem_cons.mpr ⟨lw_p50, List.forall_mem_cons.mpr ⟨lw_p51, List.forall_mem_cons.mpr ⟨lw_p52, List.forall_mem_cons.mpr ⟨lw_p53, List.forall_mem_cons.mpr ⟨lw_p54, List.forall_mem_cons.mpr ⟨lw_p55, List.forall_mem_cons.mpr ⟨lw_p56, List.forall_mem_cons.mpr ⟨lw_p57, List.forall_mem_cons.mpr ⟨lw_p58, List.forall_mem_cons.mpr ⟨lw_p59, List.forall_mem_cons.mpr ⟨lw_p60, List.forall_mem_cons.mpr ⟨lw_p61, List.forall_mem_cons.mpr ⟨lw_p62, List.forall_mem_cons.mpr ⟨lw_p63, fun _ h => absurd h List.not_mem_nil⟩⟩⟩⟩⟩⟩⟩⟩⟩⟩⟩⟩⟩⟩⟩⟩
theorem lw_p64 : lw_okq (⟨"FrameCountyModel", "isKnown", "(I)Z"⟩, 67) := ⟨⟨by decide +kernel, by decide +kernel⟩, List.mem_of_getElem? (i := 1149) (by decide +kernel), List.mem_of_getElem? (i := 1602) (by decide +kernel), List.mem_of_getElem? (i := 1603) (by decide +kernel)⟩
theorem lw_p65 : lw_okq (⟨"FrameCountyModel", "heldWithout", "(II)I"⟩, 67) := ⟨⟨by decide +kernel, by decide +kernel⟩, List.mem_of_getElem? (i := 1149) (by decide +kernel), List.mem_of_getElem? (i := 1627) (by decide +kernel), List.mem_of_getElem? (i := 1628) (by decide +kernel)⟩
theorem lw_p66 : lw_okq (⟨"FrameCountyModel", "swornBy", "(II)I"⟩, 67) := ⟨⟨by decide +kernel, by decide +kernel⟩, List.mem_of_getElem? (i := 1149) (by decide +kernel), List.mem_of_getElem? (i := 1648) (by decide +kernel), List.mem_of_getElem? (i := 1649) (by decide +kernel)⟩
theorem lw_p67 : lw_okq (⟨"FrameCountyModel", "swears", "(I)Z"⟩, 67) := ⟨⟨by decide +kernel, by decide +kernel⟩, List.mem_of_getElem? (i := 1149) (by decide +kernel), List.mem_of_getElem? (i := 1659) (by decide +kernel), List.mem_of_getElem? (i := 1660) (by decide +kernel)⟩
theorem lw_p68 : lw_okq (⟨"FrameCountyModel", "isReached", "(III)Z"⟩, 67) := ⟨⟨by decide +kernel, by decide +kernel⟩, List.mem_of_getElem? (i := 1149) (by decide +kernel), List.mem_of_getElem? (i := 1667) (by decide +kernel), List.mem_of_getElem? (i := 1668) (by decide +kernel)⟩
theorem lw_p69 : lw_okq (⟨"FrameCountyModel", "findPlan", "(I)V"⟩, 67) := ⟨⟨by decide +kernel, by decide +kernel⟩, List.mem_of_getElem? (i := 1149) (by decide +kernel), List.mem_of_getElem? (i := 1695) (by decide +kernel), List.mem_of_getElem? (i := 1696) (by decide +kernel)⟩
theorem lw_p70 : lw_okq (⟨"FrameCountyModel", "broken", "(III)I"⟩, 67) := ⟨⟨by decide +kernel, by decide +kernel⟩, List.mem_of_getElem? (i := 1149) (by decide +kernel), List.mem_of_getElem? (i := 1702) (by decide +kernel), List.mem_of_getElem? (i := 1703) (by decide +kernel)⟩
theorem lw_p71 : lw_okq (⟨"FrameCountyModel", "thatAre", "(I)I"⟩, 67) := ⟨⟨by decide +kernel, by decide +kernel⟩, List.mem_of_getElem? (i := 1149) (by decide +kernel), List.mem_of_getElem? (i := 1713) (by decide +kernel), List.mem_of_getElem? (i := 1714) (by decide +kernel)⟩
def lw_privs_5 : List (MethodName × Nat) := [(⟨"FrameCountyModel", "isKnown", "(I)Z"⟩, 67), (⟨"FrameCountyModel", "heldWithout", "(II)I"⟩, 67), (⟨"FrameCountyModel", "swornBy", "(II)I"⟩, 67), (⟨"FrameCountyModel", "swears", "(I)Z"⟩, 67), (⟨"FrameCountyModel", "isReached", "(III)Z"⟩, 67), (⟨"FrameCountyModel", "findPlan", "(I)V"⟩, 67), (⟨"FrameCountyModel", "broken", "(III)I"⟩, 67), (⟨"FrameCountyModel", "thatAre", "(I)I"⟩, 67)]
theorem lw_r5 : ∀ q ∈ lw_privs_5, lw_okq q := List.forall_mem_cons.mpr ⟨lw_p64, List.forall_mem_cons.mpr ⟨lw_p65, List.forall_mem_cons.mpr ⟨lw_p66, List.forall_mem_cons.mpr ⟨lw_p67, List.forall_mem_cons.mpr ⟨lw_p68, List.forall_mem_cons.mpr ⟨lw_p69, List.forall_mem_cons.mpr ⟨lw_p70, List.forall_mem_cons.mpr ⟨lw_p71, fun _ h => absurd h List.not_mem_nil⟩⟩⟩⟩⟩⟩⟩⟩
def lw_privs : List (MethodName × Nat) := lw_privs_1 ++ (lw_privs_2 ++ (lw_privs_3 ++ (lw_privs_4 ++ (lw_privs_5))))
def lw_tbl : List Cond := k2_sels lw_privs ++ tables_1
theorem lw_privs_ok : ∀ q ∈ lw_privs, lw_okq q := by
  show ∀ q ∈ lw_privs_1 ++ (lw_privs_2 ++ (lw_privs_3 ++ (lw_privs_4 ++ (lw_privs_5)))), lw_okq q
  exact List.forall_mem_append.mpr ⟨lw_r1, List.forall_mem_append.mpr ⟨lw_r2, List.forall_mem_append.mpr ⟨lw_r3, List.forall_mem_append.mpr ⟨lw_r4, lw_r5⟩⟩⟩⟩
-- ===== end of PART A =====
def RX0 : String := "FrameCounty$Bargain"
def TX0 : u_T := fun k => match k with
  | 0 => ("FrameCounty$Bargain", "made", "I", false)
  | 1 => ("FrameCounty$Bargain", "toOwners", "[I", true)
  | 2 => ("FrameCounty$Bargain", "toMen", "[I", true)
  | _ => ("FrameCounty$Bargain", "apart", "[I", true)
def tyX0 : Nat → FieldType := fun k => match k with
  | 0 => .int
  | 1 => .array .int
  | 2 => .array .int
  | _ => .array .int
abbrev wsX00 : List Cond := u_ws RX0 TX0 4
theorem nmX0 : ∀ a, a < 4 → ∀ b, b < 4 → a ≠ b → (TX0 a).2.1 ≠ (TX0 b).2.1 := by decide +kernel
theorem tyX0_ok : ∀ k, k < 4 → parseFieldDescriptor (TX0 k).2.2.1 = some (tyX0 k) := by decide +kernel
abbrev cX0_init : ByteArray := prog_2_method_1_code
def yX0_init : MethodName := ⟨RX0, "<init>", "()V"⟩
abbrev cX0_isClause : ByteArray := prog_2_method_2_code
def yX0_isClause : MethodName := ⟨RX0, "isClause", "(I)Z"⟩
abbrev cX0_clauses : ByteArray := prog_2_method_3_code
def yX0_clauses : MethodName := ⟨RX0, "clauses", "()I"⟩
abbrev cX0_addClause : ByteArray := prog_2_method_4_code
def yX0_addClause : MethodName := ⟨RX0, "addClause", "(II)I"⟩
abbrev cX0_part : ByteArray := prog_2_method_5_code
def yX0_part : MethodName := ⟨RX0, "part", "(II)Z"⟩
abbrev cX0_bestSet : ByteArray := prog_2_method_6_code
def yX0_bestSet : MethodName := ⟨RX0, "bestSet", "(II)I"⟩
abbrev cX0_isBetter : ByteArray := prog_2_method_7_code
def yX0_isBetter : MethodName := ⟨RX0, "isBetter", "(II)Z"⟩
abbrev cX0_goesTogether : ByteArray := prog_2_method_8_code
def yX0_goesTogether : MethodName := ⟨RX0, "goesTogether", "(I)Z"⟩
abbrev cX0_worth : ByteArray := prog_2_method_9_code
def yX0_worth : MethodName := ⟨RX0, "worth", "([II)I"⟩
def RX1 : String := "FrameCounty$Oaths"
def TX1 : u_T := fun k => match k with
  | 0 => ("FrameCounty$Oaths", "made", "I", false)
  | 1 => ("FrameCounty$Oaths", "one", "[I", true)
  | 2 => ("FrameCounty$Oaths", "another", "[I", true)
  | 3 => ("FrameCounty$Oaths", "inNight", "[I", true)
  | 4 => ("FrameCounty$Oaths", "takenBy", "[I", true)
  | _ => ("FrameCounty$Oaths", "reached", "[I", true)
def tyX1 : Nat → FieldType := fun k => match k with
  | 0 => .int
  | 1 => .array .int
  | 2 => .array .int
  | 3 => .array .int
  | 4 => .array .int
  | _ => .array .int
abbrev wsX10 : List Cond := u_ws RX1 TX1 6
theorem nmX1 : ∀ a, a < 6 → ∀ b, b < 6 → a ≠ b → (TX1 a).2.1 ≠ (TX1 b).2.1 := by decide +kernel
theorem tyX1_ok : ∀ k, k < 6 → parseFieldDescriptor (TX1 k).2.2.1 = some (tyX1 k) := by decide +kernel
abbrev cX1_init : ByteArray := prog_3_method_1_code
def yX1_init : MethodName := ⟨RX1, "<init>", "()V"⟩
abbrev cX1_meetings : ByteArray := prog_3_method_2_code
def yX1_meetings : MethodName := ⟨RX1, "meetings", "()I"⟩
abbrev cX1_addMeeting : ByteArray := prog_3_method_3_code
def yX1_addMeeting : MethodName := ⟨RX1, "addMeeting", "(III)I"⟩
abbrev cX1_tellTaker : ByteArray := prog_3_method_4_code
def yX1_tellTaker : MethodName := ⟨RX1, "tellTaker", "(II)I"⟩
abbrev cX1_swornFrom : ByteArray := prog_3_method_5_code
def yX1_swornFrom : MethodName := ⟨RX1, "swornFrom", "(II)I"⟩
abbrev cX1_fewestFirst : ByteArray := prog_3_method_6_code
def yX1_fewestFirst : MethodName := ⟨RX1, "fewestFirst", "(I)I"⟩
abbrev cX1_takersReachedFrom : ByteArray := prog_3_method_7_code
def yX1_takersReachedFrom : MethodName := ⟨RX1, "takersReachedFrom", "(II)I"⟩
abbrev cX1_takersReachedBySet : ByteArray := prog_3_method_8_code
def yX1_takersReachedBySet : MethodName := ⟨RX1, "takersReachedBySet", "(II)I"⟩
def RX2 : String := "FrameCounty$Raids"
def TX2 : u_T := fun k => match k with
  | 0 => ("FrameCounty$Raids", "works", "LFrameCounty$Works;", true)
  | 1 => ("FrameCounty$Raids", "made", "I", false)
  | 2 => ("FrameCounty$Raids", "frame", "[I", true)
  | 3 => ("FrameCounty$Raids", "inNight", "[I", true)
  | _ => ("FrameCounty$Raids", "atHour", "[I", true)
def tyX2 : Nat → FieldType := fun k => match k with
  | 0 => .object "FrameCounty$Works"
  | 1 => .int
  | 2 => .array .int
  | 3 => .array .int
  | _ => .array .int
abbrev wsX20 : List Cond := u_ws RX2 TX2 5
theorem nmX2 : ∀ a, a < 5 → ∀ b, b < 5 → a ≠ b → (TX2 a).2.1 ≠ (TX2 b).2.1 := by decide +kernel
theorem tyX2_ok : ∀ k, k < 5 → parseFieldDescriptor (TX2 k).2.2.1 = some (tyX2 k) := by decide +kernel
abbrev cX2_init : ByteArray := prog_4_method_1_code
def yX2_init : MethodName := ⟨RX2, "<init>", "(LFrameCounty$Works;)V"⟩
abbrev cX2_isRaid : ByteArray := prog_4_method_2_code
def yX2_isRaid : MethodName := ⟨RX2, "isRaid", "(I)Z"⟩
abbrev cX2_all : ByteArray := prog_4_method_3_code
def yX2_all : MethodName := ⟨RX2, "all", "()I"⟩
abbrev cX2_add : ByteArray := prog_4_method_4_code
def yX2_add : MethodName := ⟨RX2, "add", "(III)I"⟩
abbrev cX2_villageOf : ByteArray := prog_4_method_5_code
def yX2_villageOf : MethodName := ⟨RX2, "villageOf", "(I)I"⟩
abbrev cX2_nightOf : ByteArray := prog_4_method_6_code
def yX2_nightOf : MethodName := ⟨RX2, "nightOf", "(I)I"⟩
abbrev cX2_hourOf : ByteArray := prog_4_method_7_code
def yX2_hourOf : MethodName := ⟨RX2, "hourOf", "(I)I"⟩
def RX3 : String := "FrameCounty$Reader"
def TX3 : u_T := fun k => match k with
  | 0 => ("FrameCounty$Reader", "tape", "[B", true)
  | 1 => ("FrameCounty$Reader", "size", "I", false)
  | 2 => ("FrameCounty$Reader", "tokens", "[I", true)
  | 3 => ("FrameCounty$Reader", "places", "[I", true)
  | 4 => ("FrameCounty$Reader", "numbers", "[I", true)
  | 5 => ("FrameCounty$Reader", "found", "I", false)
  | 6 => ("FrameCounty$Reader", "at", "I", false)
  | 7 => ("FrameCounty$Reader", "fault", "I", false)
  | _ => ("FrameCounty$Reader", "into", "LFrameCounty$Text;", false)
def tyX3 : Nat → FieldType := fun k => match k with
  | 0 => .array .byte
  | 1 => .int
  | 2 => .array .int
  | 3 => .array .int
  | 4 => .array .int
  | 5 => .int
  | 6 => .int
  | 7 => .int
  | _ => .object "FrameCounty$Text"
abbrev wsX30 : List Cond := u_ws RX3 TX3 9
theorem nmX3 : ∀ a, a < 9 → ∀ b, b < 9 → a ≠ b → (TX3 a).2.1 ≠ (TX3 b).2.1 := by decide +kernel
theorem tyX3_ok : ∀ k, k < 9 → parseFieldDescriptor (TX3 k).2.2.1 = some (tyX3 k) := by decide +kernel
abbrev cX3_init : ByteArray := prog_5_method_1_code
def yX3_init : MethodName := ⟨RX3, "<init>", "()V"⟩
abbrev cX3_bytes : ByteArray := prog_5_method_2_code
def yX3_bytes : MethodName := ⟨RX3, "bytes", "()I"⟩
abbrev cX3_put : ByteArray := prog_5_method_3_code
def yX3_put : MethodName := ⟨RX3, "put", "(Ljava/lang/String;)V"⟩
abbrev cX3_append : ByteArray := prog_5_method_4_code
def yX3_append : MethodName := ⟨RX3, "append", "(IJ)I"⟩
abbrev cX3_readInto : ByteArray := prog_5_method_5_code
def yX3_readInto : MethodName := ⟨RX3, "readInto", "(LFrameCounty$Text;)I"⟩
abbrev cX3_cutIntoTokens : ByteArray := prog_5_method_6_code
def yX3_cutIntoTokens : MethodName := ⟨RX3, "cutIntoTokens", "()V"⟩
abbrev cX3_stretchEnd : ByteArray := prog_5_method_7_code
def yX3_stretchEnd : MethodName := ⟨RX3, "stretchEnd", "(II)I"⟩
abbrev cX3_sortOf : ByteArray := prog_5_method_8_code
def yX3_sortOf : MethodName := ⟨RX3, "sortOf", "(I)I"⟩
abbrev cX3_tokenOf : ByteArray := prog_5_method_9_code
def yX3_tokenOf : MethodName := ⟨RX3, "tokenOf", "(II)I"⟩
abbrev cX3_numberOf : ByteArray := prog_5_method_10_code
def yX3_numberOf : MethodName := ⟨RX3, "numberOf", "(II)I"⟩
abbrev cX3_wordOf : ByteArray := prog_5_method_11_code
def yX3_wordOf : MethodName := ⟨RX3, "wordOf", "(II)I"⟩
abbrev cX3_stands : ByteArray := prog_5_method_12_code
def yX3_stands : MethodName := ⟨RX3, "stands", "(Ljava/lang/String;II)Z"⟩
abbrev cX3_lettersOf : ByteArray := prog_5_method_13_code
def yX3_lettersOf : MethodName := ⟨RX3, "lettersOf", "(I)Ljava/lang/String;"⟩
abbrev cX3_token : ByteArray := prog_5_method_14_code
def yX3_token : MethodName := ⟨RX3, "token", "()I"⟩
abbrev cX3_fail : ByteArray := prog_5_method_15_code
def yX3_fail : MethodName := ⟨RX3, "fail", "()V"⟩
abbrev cX3_expect : ByteArray := prog_5_method_16_code
def yX3_expect : MethodName := ⟨RX3, "expect", "(I)V"⟩
abbrev cX3_readOr : ByteArray := prog_5_method_17_code
def yX3_readOr : MethodName := ⟨RX3, "readOr", "(I)V"⟩
abbrev cX3_readAnd : ByteArray := prog_5_method_18_code
def yX3_readAnd : MethodName := ⟨RX3, "readAnd", "(I)V"⟩
abbrev cX3_readNot : ByteArray := prog_5_method_19_code
def yX3_readNot : MethodName := ⟨RX3, "readNot", "(I)V"⟩
abbrev cX3_readSum : ByteArray := prog_5_method_20_code
def yX3_readSum : MethodName := ⟨RX3, "readSum", "(I)V"⟩
abbrev cX3_readTerm : ByteArray := prog_5_method_21_code
def yX3_readTerm : MethodName := ⟨RX3, "readTerm", "(I)V"⟩
abbrev cX3_readOne : ByteArray := prog_5_method_22_code
def yX3_readOne : MethodName := ⟨RX3, "readOne", "(I)V"⟩
abbrev cX3_mayOpen : ByteArray := prog_5_method_23_code
def yX3_mayOpen : MethodName := ⟨RX3, "mayOpen", "(I)Z"⟩
def RX4 : String := "FrameCounty$Roads"
def TX4 : u_T := fun k => match k with
  | 0 => ("FrameCounty$Roads", "taking", "[[I", true)
  | 1 => ("FrameCounty$Roads", "brightFar", "[[I", true)
  | _ => ("FrameCounty$Roads", "darkFar", "[[I", true)
def tyX4 : Nat → FieldType := fun k => match k with
  | 0 => .array (.array .int)
  | 1 => .array (.array .int)
  | _ => .array (.array .int)
abbrev wsX40 : List Cond := u_ws RX4 TX4 3
theorem nmX4 : ∀ a, a < 3 → ∀ b, b < 3 → a ≠ b → (TX4 a).2.1 ≠ (TX4 b).2.1 := by decide +kernel
theorem tyX4_ok : ∀ k, k < 3 → parseFieldDescriptor (TX4 k).2.2.1 = some (tyX4 k) := by decide +kernel
abbrev cX4_init : ByteArray := prog_6_method_1_code
def yX4_init : MethodName := ⟨RX4, "<init>", "()V"⟩
abbrev cX4_isVillage : ByteArray := prog_6_method_2_code
def yX4_isVillage : MethodName := ⟨RX4, "isVillage", "(I)Z"⟩
abbrev cX4_canTake : ByteArray := prog_6_method_3_code
def yX4_canTake : MethodName := ⟨RX4, "canTake", "(I)Z"⟩
abbrev cX4_lay : ByteArray := prog_6_method_4_code
def yX4_lay : MethodName := ⟨RX4, "lay", "(III)I"⟩
abbrev cX4_distance : ByteArray := prog_6_method_5_code
def yX4_distance : MethodName := ⟨RX4, "distance", "(III)I"⟩
abbrev cX4_isReached : ByteArray := prog_6_method_6_code
def yX4_isReached : MethodName := ⟨RX4, "isReached", "(IIII)Z"⟩
abbrev cX4_isReachedFromOne : ByteArray := prog_6_method_7_code
def yX4_isReachedFromOne : MethodName := ⟨RX4, "isReachedFromOne", "(IIII)Z"⟩
abbrev cX4_measure : ByteArray := prog_6_method_8_code
def yX4_measure : MethodName := ⟨RX4, "measure", "([[II)V"⟩
def RX5 : String := "FrameCounty$Sheets"
def TX5 : u_T := fun k => match k with
  | 0 => ("FrameCounty$Sheets", "sort", "[I", true)
  | 1 => ("FrameCounty$Sheets", "length", "[I", true)
  | _ => ("FrameCounty$Sheets", "items", "[[I", true)
def tyX5 : Nat → FieldType := fun k => match k with
  | 0 => .array .int
  | 1 => .array .int
  | _ => .array (.array .int)
abbrev wsX50 : List Cond := u_ws RX5 TX5 3
theorem nmX5 : ∀ a, a < 3 → ∀ b, b < 3 → a ≠ b → (TX5 a).2.1 ≠ (TX5 b).2.1 := by decide +kernel
theorem tyX5_ok : ∀ k, k < 3 → parseFieldDescriptor (TX5 k).2.2.1 = some (tyX5 k) := by decide +kernel
abbrev cX5_init : ByteArray := prog_7_method_1_code
def yX5_init : MethodName := ⟨RX5, "<init>", "()V"⟩
abbrev cX5_isSheet : ByteArray := prog_7_method_2_code
def yX5_isSheet : MethodName := ⟨RX5, "isSheet", "(I)Z"⟩
abbrev cX5_isSort : ByteArray := prog_7_method_3_code
def yX5_isSort : MethodName := ⟨RX5, "isSort", "(I)Z"⟩
abbrev cX5_isMissing : ByteArray := prog_7_method_4_code
def yX5_isMissing : MethodName := ⟨RX5, "isMissing", "(I)Z"⟩
abbrev cX5_sortOf : ByteArray := prog_7_method_5_code
def yX5_sortOf : MethodName := ⟨RX5, "sortOf", "(I)I"⟩
abbrev cX5_isPlace : ByteArray := prog_7_method_6_code
def yX5_isPlace : MethodName := ⟨RX5, "isPlace", "(II)Z"⟩
abbrev cX5_isStretch : ByteArray := prog_7_method_7_code
def yX5_isStretch : MethodName := ⟨RX5, "isStretch", "(III)Z"⟩
abbrev cX5_drop : ByteArray := prog_7_method_8_code
def yX5_drop : MethodName := ⟨RX5, "drop", "(I)V"⟩
abbrev cX5_lay : ByteArray := prog_7_method_9_code
def yX5_lay : MethodName := ⟨RX5, "lay", "(III)V"⟩
abbrev cX5_put : ByteArray := prog_7_method_10_code
def yX5_put : MethodName := ⟨RX5, "put", "(III)V"⟩
abbrev cX5_itemAt : ByteArray := prog_7_method_11_code
def yX5_itemAt : MethodName := ⟨RX5, "itemAt", "(II)I"⟩
abbrev cX5_move : ByteArray := prog_7_method_12_code
def yX5_move : MethodName := ⟨RX5, "move", "(IIIII)V"⟩
def RX6 : String := "FrameCounty$Text"
def TX6 : u_T := fun k => match k with
  | 0 => ("FrameCounty$Text", "steps", "[I", true)
  | 1 => ("FrameCounty$Text", "stack", "[I", true)
  | 2 => ("FrameCounty$Text", "priceEnd", "I", false)
  | _ => ("FrameCounty$Text", "holdEnd", "I", false)
def tyX6 : Nat → FieldType := fun k => match k with
  | 0 => .array .int
  | 1 => .array .int
  | 2 => .int
  | _ => .int
abbrev wsX60 : List Cond := u_ws RX6 TX6 4
theorem nmX6 : ∀ a, a < 4 → ∀ b, b < 4 → a ≠ b → (TX6 a).2.1 ≠ (TX6 b).2.1 := by decide +kernel
theorem tyX6_ok : ∀ k, k < 4 → parseFieldDescriptor (TX6 k).2.2.1 = some (tyX6 k) := by decide +kernel
abbrev cX6_init : ByteArray := prog_8_method_1_code
def yX6_init : MethodName := ⟨RX6, "<init>", "()V"⟩
abbrev cX6_clear : ByteArray := prog_8_method_2_code
def yX6_clear : MethodName := ⟨RX6, "clear", "()V"⟩
abbrev cX6_endPrice : ByteArray := prog_8_method_3_code
def yX6_endPrice : MethodName := ⟨RX6, "endPrice", "()V"⟩
abbrev cX6_add : ByteArray := prog_8_method_4_code
def yX6_add : MethodName := ⟨RX6, "add", "(I)V"⟩
abbrev cX6_addName : ByteArray := prog_8_method_5_code
def yX6_addName : MethodName := ⟨RX6, "addName", "(I)V"⟩
abbrev cX6_priceBy : ByteArray := prog_8_method_6_code
def yX6_priceBy : MethodName := ⟨RX6, "priceBy", "([I)I"⟩
abbrev cX6_holdBy : ByteArray := prog_8_method_7_code
def yX6_holdBy : MethodName := ⟨RX6, "holdBy", "([I)I"⟩
abbrev cX6_work : ByteArray := prog_8_method_8_code
def yX6_work : MethodName := ⟨RX6, "work", "(II[I)I"⟩
abbrev cX6_valueOf : ByteArray := prog_8_method_9_code
def yX6_valueOf : MethodName := ⟨RX6, "valueOf", "(I[I)I"⟩
abbrev cX6_ofOne : ByteArray := prog_8_method_10_code
def yX6_ofOne : MethodName := ⟨RX6, "ofOne", "(II)I"⟩
abbrev cX6_ofTwo : ByteArray := prog_8_method_11_code
def yX6_ofTwo : MethodName := ⟨RX6, "ofTwo", "(III)I"⟩
abbrev cX6_bit : ByteArray := prog_8_method_12_code
def yX6_bit : MethodName := ⟨RX6, "bit", "(Z)I"⟩
def RX7 : String := "FrameCounty$Watch"
def TX7 : u_T := fun k => match k with
  | 0 => ("FrameCounty$Watch", "roads", "LFrameCounty$Roads;", true)
  | 1 => ("FrameCounty$Watch", "raids", "LFrameCounty$Raids;", true)
  | 2 => ("FrameCounty$Watch", "personsMade", "I", false)
  | 3 => ("FrameCounty$Watch", "home", "[I", true)
  | 4 => ("FrameCounty$Watch", "seenMade", "I", false)
  | 5 => ("FrameCounty$Watch", "seenWho", "[I", true)
  | 6 => ("FrameCounty$Watch", "seenWhere", "[I", true)
  | 7 => ("FrameCounty$Watch", "seenNight", "[I", true)
  | 8 => ("FrameCounty$Watch", "seenHour", "[I", true)
  | 9 => ("FrameCounty$Watch", "seenKnown", "[I", true)
  | 10 => ("FrameCounty$Watch", "wordsMade", "I", false)
  | 11 => ("FrameCounty$Watch", "wordBy", "[I", true)
  | 12 => ("FrameCounty$Watch", "wordOn", "[I", true)
  | 13 => ("FrameCounty$Watch", "wordRaid", "[I", true)
  | 14 => ("FrameCounty$Watch", "wordPaid", "[I", true)
  | _ => ("FrameCounty$Watch", "wordKnown", "[I", true)
def tyX7 : Nat → FieldType := fun k => match k with
  | 0 => .object "FrameCounty$Roads"
  | 1 => .object "FrameCounty$Raids"
  | 2 => .int
  | 3 => .array .int
  | 4 => .int
  | 5 => .array .int
  | 6 => .array .int
  | 7 => .array .int
  | 8 => .array .int
  | 9 => .array .int
  | 10 => .int
  | 11 => .array .int
  | 12 => .array .int
  | 13 => .array .int
  | 14 => .array .int
  | _ => .array .int
abbrev wsX70 : List Cond := u_ws RX7 TX7 16
theorem nmX7 : ∀ a, a < 16 → ∀ b, b < 16 → a ≠ b → (TX7 a).2.1 ≠ (TX7 b).2.1 := by decide +kernel
theorem tyX7_ok : ∀ k, k < 16 → parseFieldDescriptor (TX7 k).2.2.1 = some (tyX7 k) := by decide +kernel
abbrev cX7_init : ByteArray := prog_9_method_1_code
def yX7_init : MethodName := ⟨RX7, "<init>", "(LFrameCounty$Roads;LFrameCounty$Raids;)V"⟩
abbrev cX7_isPerson : ByteArray := prog_9_method_2_code
def yX7_isPerson : MethodName := ⟨RX7, "isPerson", "(I)Z"⟩
abbrev cX7_persons : ByteArray := prog_9_method_3_code
def yX7_persons : MethodName := ⟨RX7, "persons", "()I"⟩
abbrev cX7_allSeen : ByteArray := prog_9_method_4_code
def yX7_allSeen : MethodName := ⟨RX7, "allSeen", "()I"⟩
abbrev cX7_allWords : ByteArray := prog_9_method_5_code
def yX7_allWords : MethodName := ⟨RX7, "allWords", "()I"⟩
abbrev cX7_addPerson : ByteArray := prog_9_method_6_code
def yX7_addPerson : MethodName := ⟨RX7, "addPerson", "(I)I"⟩
abbrev cX7_addSeen : ByteArray := prog_9_method_7_code
def yX7_addSeen : MethodName := ⟨RX7, "addSeen", "(IIIII)I"⟩
abbrev cX7_addWord : ByteArray := prog_9_method_8_code
def yX7_addWord : MethodName := ⟨RX7, "addWord", "(IIIII)I"⟩
abbrev cX7_isPossible : ByteArray := prog_9_method_9_code
def yX7_isPossible : MethodName := ⟨RX7, "isPossible", "(IIIII)Z"⟩
abbrev cX7_isPossibleAt : ByteArray := prog_9_method_10_code
def yX7_isPossibleAt : MethodName := ⟨RX7, "isPossibleAt", "(III)Z"⟩
abbrev cX7_couldRaid : ByteArray := prog_9_method_11_code
def yX7_couldRaid : MethodName := ⟨RX7, "couldRaid", "(II)I"⟩
abbrev cX7_lies : ByteArray := prog_9_method_12_code
def yX7_lies : MethodName := ⟨RX7, "lies", "(I)I"⟩
abbrev cX7_wordsOf : ByteArray := prog_9_method_13_code
def yX7_wordsOf : MethodName := ⟨RX7, "wordsOf", "(II)I"⟩
abbrev cX7_wordsOn : ByteArray := prog_9_method_14_code
def yX7_wordsOn : MethodName := ⟨RX7, "wordsOn", "(II)I"⟩
abbrev cX7_paidFor : ByteArray := prog_9_method_15_code
def yX7_paidFor : MethodName := ⟨RX7, "paidFor", "(I)I"⟩
def RX8 : String := "FrameCounty$Weeks"
def TX8 : u_T := fun k => match k with
  | 0 => ("FrameCounty$Weeks", "made", "I", false)
  | _ => ("FrameCounty$Weeks", "expected", "[[I", true)
def tyX8 : Nat → FieldType := fun k => match k with
  | 0 => .int
  | _ => .array (.array .int)
abbrev wsX80 : List Cond := u_ws RX8 TX8 2
theorem nmX8 : ∀ a, a < 2 → ∀ b, b < 2 → a ≠ b → (TX8 a).2.1 ≠ (TX8 b).2.1 := by decide +kernel
theorem tyX8_ok : ∀ k, k < 2 → parseFieldDescriptor (TX8 k).2.2.1 = some (tyX8 k) := by decide +kernel
abbrev cX8_init : ByteArray := prog_10_method_1_code
def yX8_init : MethodName := ⟨RX8, "<init>", "()V"⟩
abbrev cX8_isRow : ByteArray := prog_10_method_2_code
def yX8_isRow : MethodName := ⟨RX8, "isRow", "(J)Z"⟩
abbrev cX8_rows : ByteArray := prog_10_method_3_code
def yX8_rows : MethodName := ⟨RX8, "rows", "()I"⟩
abbrev cX8_addRow : ByteArray := prog_10_method_4_code
def yX8_addRow : MethodName := ⟨RX8, "addRow", "(J)I"⟩
abbrev cX8_doneIn : ByteArray := prog_10_method_5_code
def yX8_doneIn : MethodName := ⟨RX8, "doneIn", "(III)I"⟩
abbrev cX8_bestPlan : ByteArray := prog_10_method_6_code
def yX8_bestPlan : MethodName := ⟨RX8, "bestPlan", "(I)I"⟩
abbrev cX8_mostBroken : ByteArray := prog_10_method_7_code
def yX8_mostBroken : MethodName := ⟨RX8, "mostBroken", "(II)I"⟩
abbrev cX8_broken : ByteArray := prog_10_method_8_code
def yX8_broken : MethodName := ⟨RX8, "broken", "(III)I"⟩
abbrev cX8_weeksWithSoldiers : ByteArray := prog_10_method_9_code
def yX8_weeksWithSoldiers : MethodName := ⟨RX8, "weeksWithSoldiers", "(II)I"⟩
def RX9 : String := "FrameCounty$Works"
def TX9 : u_T := fun k => match k with
  | 0 => ("FrameCounty$Works", "shopsMade", "I", false)
  | 1 => ("FrameCounty$Works", "village", "[I", true)
  | 2 => ("FrameCounty$Works", "price", "[I", true)
  | 3 => ("FrameCounty$Works", "framesMade", "I", false)
  | 4 => ("FrameCounty$Works", "kind", "[I", true)
  | 5 => ("FrameCounty$Works", "owner", "[I", true)
  | 6 => ("FrameCounty$Works", "width", "[I", true)
  | 7 => ("FrameCounty$Works", "rent", "[I", true)
  | 8 => ("FrameCounty$Works", "state", "[I", true)
  | _ => ("FrameCounty$Works", "brokenIn", "[I", true)
def tyX9 : Nat → FieldType := fun k => match k with
  | 0 => .int
  | 1 => .array .int
  | 2 => .array .int
  | 3 => .int
  | 4 => .array .int
  | 5 => .array .int
  | 6 => .array .int
  | 7 => .array .int
  | 8 => .array .int
  | _ => .array .int
abbrev wsX90 : List Cond := u_ws RX9 TX9 10
theorem nmX9 : ∀ a, a < 10 → ∀ b, b < 10 → a ≠ b → (TX9 a).2.1 ≠ (TX9 b).2.1 := by decide +kernel
theorem tyX9_ok : ∀ k, k < 10 → parseFieldDescriptor (TX9 k).2.2.1 = some (tyX9 k) := by decide +kernel
abbrev cX9_init : ByteArray := prog_11_method_1_code
def yX9_init : MethodName := ⟨RX9, "<init>", "()V"⟩
abbrev cX9_canPay : ByteArray := prog_11_method_2_code
def yX9_canPay : MethodName := ⟨RX9, "canPay", "(I)Z"⟩
abbrev cX9_isKind : ByteArray := prog_11_method_3_code
def yX9_isKind : MethodName := ⟨RX9, "isKind", "(I)Z"⟩
abbrev cX9_canBeWide : ByteArray := prog_11_method_4_code
def yX9_canBeWide : MethodName := ⟨RX9, "canBeWide", "(I)Z"⟩
abbrev cX9_isShop : ByteArray := prog_11_method_5_code
def yX9_isShop : MethodName := ⟨RX9, "isShop", "(I)Z"⟩
abbrev cX9_isFrame : ByteArray := prog_11_method_6_code
def yX9_isFrame : MethodName := ⟨RX9, "isFrame", "(I)Z"⟩
abbrev cX9_shops : ByteArray := prog_11_method_7_code
def yX9_shops : MethodName := ⟨RX9, "shops", "()I"⟩
abbrev cX9_frames : ByteArray := prog_11_method_8_code
def yX9_frames : MethodName := ⟨RX9, "frames", "()I"⟩
abbrev cX9_villageOf : ByteArray := prog_11_method_9_code
def yX9_villageOf : MethodName := ⟨RX9, "villageOf", "(I)I"⟩
abbrev cX9_paysOf : ByteArray := prog_11_method_10_code
def yX9_paysOf : MethodName := ⟨RX9, "paysOf", "(I)I"⟩
abbrev cX9_kindOf : ByteArray := prog_11_method_11_code
def yX9_kindOf : MethodName := ⟨RX9, "kindOf", "(I)I"⟩
abbrev cX9_shopOf : ByteArray := prog_11_method_12_code
def yX9_shopOf : MethodName := ⟨RX9, "shopOf", "(I)I"⟩
abbrev cX9_widthOf : ByteArray := prog_11_method_13_code
def yX9_widthOf : MethodName := ⟨RX9, "widthOf", "(I)I"⟩
abbrev cX9_isWhole : ByteArray := prog_11_method_14_code
def yX9_isWhole : MethodName := ⟨RX9, "isWhole", "(I)Z"⟩
abbrev cX9_addShop : ByteArray := prog_11_method_15_code
def yX9_addShop : MethodName := ⟨RX9, "addShop", "(II)I"⟩
abbrev cX9_tellPays : ByteArray := prog_11_method_16_code
def yX9_tellPays : MethodName := ⟨RX9, "tellPays", "(II)I"⟩
abbrev cX9_addFrame : ByteArray := prog_11_method_17_code
def yX9_addFrame : MethodName := ⟨RX9, "addFrame", "(IIII)I"⟩
abbrev cX9_tellOf : ByteArray := prog_11_method_18_code
def yX9_tellOf : MethodName := ⟨RX9, "tellOf", "(II)J"⟩
abbrev cX9_change : ByteArray := prog_11_method_19_code
def yX9_change : MethodName := ⟨RX9, "change", "(II)Z"⟩
abbrev cX9_breakDown : ByteArray := prog_11_method_20_code
def yX9_breakDown : MethodName := ⟨RX9, "breakDown", "(II)V"⟩
abbrev cX9_framesThatAre : ByteArray := prog_11_method_21_code
def yX9_framesThatAre : MethodName := ⟨RX9, "framesThatAre", "(I)I"⟩
abbrev cX9_isOfKind : ByteArray := prog_11_method_22_code
def yX9_isOfKind : MethodName := ⟨RX9, "isOfKind", "(II)Z"⟩
abbrev cX9_rentPaid : ByteArray := prog_11_method_23_code
def yX9_rentPaid : MethodName := ⟨RX9, "rentPaid", "(I)I"⟩
abbrev cX9_makes : ByteArray := prog_11_method_24_code
def yX9_makes : MethodName := ⟨RX9, "makes", "(I)I"⟩
abbrev cX9_earned : ByteArray := prog_11_method_25_code
def yX9_earned : MethodName := ⟨RX9, "earned", "(I)I"⟩
abbrev cX9_earnedBy : ByteArray := prog_11_method_26_code
def yX9_earnedBy : MethodName := ⟨RX9, "earnedBy", "(I)I"⟩
abbrev cX9_struckIn : ByteArray := prog_11_method_27_code
def yX9_struckIn : MethodName := ⟨RX9, "struckIn", "(I)I"⟩
abbrev cX9_sparedBy : ByteArray := prog_11_method_28_code
def yX9_sparedBy : MethodName := ⟨RX9, "sparedBy", "(I)I"⟩
abbrev cX9_shopsWith : ByteArray := prog_11_method_29_code
def yX9_shopsWith : MethodName := ⟨RX9, "shopsWith", "(I)I"⟩
abbrev cX9_fits : ByteArray := prog_11_method_30_code
def yX9_fits : MethodName := ⟨RX9, "fits", "(II)Z"⟩
abbrev cX9_fieldOf : ByteArray := prog_11_method_31_code
def yX9_fieldOf : MethodName := ⟨RX9, "fieldOf", "(II)I"⟩
abbrev cX9_parts : ByteArray := prog_11_method_32_code
def yX9_parts : MethodName := ⟨RX9, "parts", "(III)Z"⟩
abbrev cX9_nextShop : ByteArray := prog_11_method_33_code
def yX9_nextShop : MethodName := ⟨RX9, "nextShop", "(II)I"⟩
abbrev cX9_wholeThatFit : ByteArray := prog_11_method_34_code
def yX9_wholeThatFit : MethodName := ⟨RX9, "wholeThatFit", "(II)I"⟩
def RX10 : String := "FrameCounty"
def TX10 : u_T := fun k => match k with
  | 0 => ("FrameCounty", "roads", "LFrameCounty$Roads;", true)
  | 1 => ("FrameCounty", "works", "LFrameCounty$Works;", true)
  | 2 => ("FrameCounty", "raids", "LFrameCounty$Raids;", true)
  | 3 => ("FrameCounty", "watch", "LFrameCounty$Watch;", true)
  | 4 => ("FrameCounty", "oaths", "LFrameCounty$Oaths;", true)
  | 5 => ("FrameCounty", "bargain", "LFrameCounty$Bargain;", true)
  | 6 => ("FrameCounty", "weeks", "LFrameCounty$Weeks;", true)
  | 7 => ("FrameCounty", "sheets", "LFrameCounty$Sheets;", true)
  | 8 => ("FrameCounty", "reader", "LFrameCounty$Reader;", true)
  | 9 => ("FrameCounty", "texts", "[LFrameCounty$Text;", true)
  | 10 => ("FrameCounty", "asked", "[I", true)
  | 11 => ("FrameCounty", "textsMade", "I", false)
  | 12 => ("FrameCounty", "list", "I", false)
  | _ => ("FrameCounty", "night", "I", false)
def tyX10 : Nat → FieldType := fun k => match k with
  | 0 => .object "FrameCounty$Roads"
  | 1 => .object "FrameCounty$Works"
  | 2 => .object "FrameCounty$Raids"
  | 3 => .object "FrameCounty$Watch"
  | 4 => .object "FrameCounty$Oaths"
  | 5 => .object "FrameCounty$Bargain"
  | 6 => .object "FrameCounty$Weeks"
  | 7 => .object "FrameCounty$Sheets"
  | 8 => .object "FrameCounty$Reader"
  | 9 => .array (.object "FrameCounty$Text")
  | 10 => .array .int
  | 11 => .int
  | 12 => .int
  | _ => .int
abbrev wsX100 : List Cond := u_ws RX10 TX10 14
theorem nmX10 : ∀ a, a < 14 → ∀ b, b < 14 → a ≠ b → (TX10 a).2.1 ≠ (TX10 b).2.1 := by decide +kernel
theorem tyX10_ok : ∀ k, k < 14 → parseFieldDescriptor (TX10 k).2.2.1 = some (tyX10 k) := by decide +kernel
abbrev cX10_init : ByteArray := prog_1_method_1_code
def yX10_init : MethodName := ⟨RX10, "<init>", "()V"⟩
abbrev cX10_pass : ByteArray := prog_1_method_2_code
def yX10_pass : MethodName := ⟨RX10, "pass", "(I)I"⟩
abbrev cX10_road : ByteArray := prog_1_method_3_code
def yX10_road : MethodName := ⟨RX10, "road", "(III)I"⟩
abbrev cX10_far : ByteArray := prog_1_method_4_code
def yX10_far : MethodName := ⟨RX10, "far", "(III)I"⟩
abbrev cX10_shop : ByteArray := prog_1_method_5_code
def yX10_shop : MethodName := ⟨RX10, "shop", "(II)I"⟩
abbrev cX10_pays : ByteArray := prog_1_method_6_code
def yX10_pays : MethodName := ⟨RX10, "pays", "(II)I"⟩
abbrev cX10_frame : ByteArray := prog_1_method_7_code
def yX10_frame : MethodName := ⟨RX10, "frame", "(IIII)I"⟩
abbrev cX10_frameTold : ByteArray := prog_1_method_8_code
def yX10_frameTold : MethodName := ⟨RX10, "frameTold", "(II)J"⟩
abbrev cX10_mend : ByteArray := prog_1_method_9_code
def yX10_mend : MethodName := ⟨RX10, "mend", "(II)I"⟩
abbrev cX10_keeps : ByteArray := prog_1_method_10_code
def yX10_keeps : MethodName := ⟨RX10, "keeps", "(I)I"⟩
abbrev cX10_earns : ByteArray := prog_1_method_11_code
def yX10_earns : MethodName := ⟨RX10, "earns", "(I)J"⟩
abbrev cX10_feed : ByteArray := prog_1_method_12_code
def yX10_feed : MethodName := ⟨RX10, "feed", "(IJ)I"⟩
abbrev cX10_text : ByteArray := prog_1_method_13_code
def yX10_text : MethodName := ⟨RX10, "text", "()I"⟩
abbrev cX10_force : ByteArray := prog_1_method_14_code
def yX10_force : MethodName := ⟨RX10, "force", "(I)I"⟩
abbrev cX10_says : ByteArray := prog_1_method_15_code
def yX10_says : MethodName := ⟨RX10, "says", "(II)J"⟩
abbrev cX10_raid : ByteArray := prog_1_method_16_code
def yX10_raid : MethodName := ⟨RX10, "raid", "(II)I"⟩
abbrev cX10_pattern : ByteArray := prog_1_method_17_code
def yX10_pattern : MethodName := ⟨RX10, "pattern", "(I)I"⟩
abbrev cX10_left : ByteArray := prog_1_method_18_code
def yX10_left : MethodName := ⟨RX10, "left", "()I"⟩
abbrev cX10_form : ByteArray := prog_1_method_19_code
def yX10_form : MethodName := ⟨RX10, "form", "(I)I"⟩
abbrev cX10_sends : ByteArray := prog_1_method_20_code
def yX10_sends : MethodName := ⟨RX10, "sends", "(I)I"⟩
abbrev cX10_person : ByteArray := prog_1_method_21_code
def yX10_person : MethodName := ⟨RX10, "person", "(I)I"⟩
abbrev cX10_seen : ByteArray := prog_1_method_22_code
def yX10_seen : MethodName := ⟨RX10, "seen", "(IIII)I"⟩
abbrev cX10_canBe : ByteArray := prog_1_method_23_code
def yX10_canBe : MethodName := ⟨RX10, "canBe", "(IIII)I"⟩
abbrev cX10_suspects : ByteArray := prog_1_method_24_code
def yX10_suspects : MethodName := ⟨RX10, "suspects", "(II)I"⟩
abbrev cX10_word : ByteArray := prog_1_method_25_code
def yX10_word : MethodName := ⟨RX10, "word", "(IIII)I"⟩
abbrev cX10_falseWords : ByteArray := prog_1_method_26_code
def yX10_falseWords : MethodName := ⟨RX10, "falseWords", "(I)I"⟩
abbrev cX10_paid : ByteArray := prog_1_method_27_code
def yX10_paid : MethodName := ⟨RX10, "paid", "(III)J"⟩
abbrev cX10_held : ByteArray := prog_1_method_28_code
def yX10_held : MethodName := ⟨RX10, "held", "(I)I"⟩
abbrev cX10_hangs : ByteArray := prog_1_method_29_code
def yX10_hangs : MethodName := ⟨RX10, "hangs", "(II)I"⟩
abbrev cX10_meeting : ByteArray := prog_1_method_30_code
def yX10_meeting : MethodName := ⟨RX10, "meeting", "(III)I"⟩
abbrev cX10_taker : ByteArray := prog_1_method_31_code
def yX10_taker : MethodName := ⟨RX10, "taker", "(II)I"⟩
abbrev cX10_sworn : ByteArray := prog_1_method_32_code
def yX10_sworn : MethodName := ⟨RX10, "sworn", "(II)I"⟩
abbrev cX10_began : ByteArray := prog_1_method_33_code
def yX10_began : MethodName := ⟨RX10, "began", "()I"⟩
abbrev cX10_parties : ByteArray := prog_1_method_34_code
def yX10_parties : MethodName := ⟨RX10, "parties", "(IIII)I"⟩
abbrev cX10_clause : ByteArray := prog_1_method_35_code
def yX10_clause : MethodName := ⟨RX10, "clause", "(II)I"⟩
abbrev cX10_against : ByteArray := prog_1_method_36_code
def yX10_against : MethodName := ⟨RX10, "against", "(II)I"⟩
abbrev cX10_offer : ByteArray := prog_1_method_37_code
def yX10_offer : MethodName := ⟨RX10, "offer", "(II)I"⟩
abbrev cX10_row : ByteArray := prog_1_method_38_code
def yX10_row : MethodName := ⟨RX10, "row", "(J)I"⟩
abbrev cX10_plan : ByteArray := prog_1_method_39_code
def yX10_plan : MethodName := ⟨RX10, "plan", "(II)I"⟩
abbrev cX10_count : ByteArray := prog_1_method_40_code
def yX10_count : MethodName := ⟨RX10, "count", "(I)I"⟩
abbrev cX10_sheet : ByteArray := prog_1_method_41_code
def yX10_sheet : MethodName := ⟨RX10, "sheet", "(III)I"⟩
abbrev cX10_cell : ByteArray := prog_1_method_42_code
def yX10_cell : MethodName := ⟨RX10, "cell", "(III)I"⟩
abbrev cX10_copy : ByteArray := prog_1_method_43_code
def yX10_copy : MethodName := ⟨RX10, "copy", "(IIIII)I"⟩
abbrev cX10_paysRow : ByteArray := prog_1_method_44_code
def yX10_paysRow : MethodName := ⟨RX10, "paysRow", "(IIII)I"⟩
abbrev cX10_taken : ByteArray := prog_1_method_45_code
def yX10_taken : MethodName := ⟨RX10, "taken", "(II)I"⟩
abbrev cX10_isWithin : ByteArray := prog_1_method_46_code
def yX10_isWithin : MethodName := ⟨RX10, "isWithin", "(III)Z"⟩
abbrev cX10_isNight : ByteArray := prog_1_method_47_code
def yX10_isNight : MethodName := ⟨RX10, "isNight", "(I)Z"⟩
abbrev cX10_isHour : ByteArray := prog_1_method_48_code
def yX10_isHour : MethodName := ⟨RX10, "isHour", "(I)Z"⟩
abbrev cX10_isInformer : ByteArray := prog_1_method_49_code
def yX10_isInformer : MethodName := ⟨RX10, "isInformer", "(I)Z"⟩
abbrev cX10_isPast : ByteArray := prog_1_method_50_code
def yX10_isPast : MethodName := ⟨RX10, "isPast", "(I)Z"⟩
abbrev cX10_priceOf : ByteArray := prog_1_method_51_code
def yX10_priceOf : MethodName := ⟨RX10, "priceOf", "(I)I"⟩
abbrev cX10_holdOf : ByteArray := prog_1_method_52_code
def yX10_holdOf : MethodName := ⟨RX10, "holdOf", "(IIII)I"⟩
abbrev cX10_heldWithout : ByteArray := prog_1_method_53_code
def yX10_heldWithout : MethodName := ⟨RX10, "heldWithout", "(II)I"⟩
abbrev cX10_shopsReached : ByteArray := prog_1_method_54_code
def yX10_shopsReached : MethodName := ⟨RX10, "shopsReached", "(III)I"⟩
def RX11 : String := "FrameCountyModel"
def TX11 : u_T := fun k => match k with
  | 0 => ("FrameCountyModel", "road", "[I", true)
  | 1 => ("FrameCountyModel", "far", "[I", true)
  | 2 => ("FrameCountyModel", "night", "I", false)
  | 3 => ("FrameCountyModel", "shopIn", "[I", true)
  | 4 => ("FrameCountyModel", "pays", "[I", true)
  | 5 => ("FrameCountyModel", "kind", "[I", true)
  | 6 => ("FrameCountyModel", "shopOf", "[I", true)
  | 7 => ("FrameCountyModel", "width", "[I", true)
  | 8 => ("FrameCountyModel", "rent", "[I", true)
  | 9 => ("FrameCountyModel", "how", "[I", true)
  | 10 => ("FrameCountyModel", "brokenIn", "[I", true)
  | 11 => ("FrameCountyModel", "shops", "I", false)
  | 12 => ("FrameCountyModel", "frames", "I", false)
  | 13 => ("FrameCountyModel", "tape", "[I", true)
  | 14 => ("FrameCountyModel", "step", "[I", true)
  | 15 => ("FrameCountyModel", "number", "[I", true)
  | 16 => ("FrameCountyModel", "begin", "[I", true)
  | 17 => ("FrameCountyModel", "end", "[I", true)
  | 18 => ("FrameCountyModel", "stack", "[I", true)
  | 19 => ("FrameCountyModel", "taped", "I", false)
  | 20 => ("FrameCountyModel", "texts", "I", false)
  | 21 => ("FrameCountyModel", "list", "I", false)
  | 22 => ("FrameCountyModel", "at", "I", false)
  | 23 => ("FrameCountyModel", "open", "I", false)
  | 24 => ("FrameCountyModel", "top", "I", false)
  | 25 => ("FrameCountyModel", "made", "I", false)
  | 26 => ("FrameCountyModel", "token", "I", false)
  | 27 => ("FrameCountyModel", "tokenAt", "I", false)
  | 28 => ("FrameCountyModel", "told", "I", false)
  | 29 => ("FrameCountyModel", "name", "[I", true)
  | 30 => ("FrameCountyModel", "value", "[I", true)
  | 31 => ("FrameCountyModel", "raidFrame", "[I", true)
  | 32 => ("FrameCountyModel", "raidIn", "[I", true)
  | 33 => ("FrameCountyModel", "raidAt", "[I", true)
  | 34 => ("FrameCountyModel", "raids", "I", false)
  | 35 => ("FrameCountyModel", "home", "[I", true)
  | 36 => ("FrameCountyModel", "seenWho", "[I", true)
  | 37 => ("FrameCountyModel", "seenIn", "[I", true)
  | 38 => ("FrameCountyModel", "seenNight", "[I", true)
  | 39 => ("FrameCountyModel", "seenHour", "[I", true)
  | 40 => ("FrameCountyModel", "seenTold", "[I", true)
  | 41 => ("FrameCountyModel", "wordBy", "[I", true)
  | 42 => ("FrameCountyModel", "wordWho", "[I", true)
  | 43 => ("FrameCountyModel", "wordRaid", "[I", true)
  | 44 => ("FrameCountyModel", "wordPaid", "[I", true)
  | 45 => ("FrameCountyModel", "wordTold", "[I", true)
  | 46 => ("FrameCountyModel", "persons", "I", false)
  | 47 => ("FrameCountyModel", "seens", "I", false)
  | 48 => ("FrameCountyModel", "words", "I", false)
  | 49 => ("FrameCountyModel", "meetA", "[I", true)
  | 50 => ("FrameCountyModel", "meetB", "[I", true)
  | 51 => ("FrameCountyModel", "meetIn", "[I", true)
  | 52 => ("FrameCountyModel", "order", "[I", true)
  | 53 => ("FrameCountyModel", "taker", "[I", true)
  | 54 => ("FrameCountyModel", "meetings", "I", false)
  | 55 => ("FrameCountyModel", "toOwners", "[I", true)
  | 56 => ("FrameCountyModel", "toMen", "[I", true)
  | 57 => ("FrameCountyModel", "against", "[I", true)
  | 58 => ("FrameCountyModel", "clauses", "I", false)
  | 59 => ("FrameCountyModel", "raidsIn", "[I", true)
  | 60 => ("FrameCountyModel", "rows", "I", false)
  | 61 => ("FrameCountyModel", "planWorst", "I", false)
  | 62 => ("FrameCountyModel", "planBest", "I", false)
  | 63 => ("FrameCountyModel", "sort", "[I", true)
  | 64 => ("FrameCountyModel", "size", "[I", true)
  | 65 => ("FrameCountyModel", "item", "[I", true)
  | _ => ("FrameCountyModel", "kept", "[I", true)
def tyX11 : Nat → FieldType := fun k => match k with
  | 0 => .array .int
  | 1 => .array .int
  | 2 => .int
  | 3 => .array .int
  | 4 => .array .int
  | 5 => .array .int
  | 6 => .array .int
  | 7 => .array .int
  | 8 => .array .int
  | 9 => .array .int
  | 10 => .array .int
  | 11 => .int
  | 12 => .int
  | 13 => .array .int
  | 14 => .array .int
  | 15 => .array .int
  | 16 => .array .int
  | 17 => .array .int
  | 18 => .array .int
  | 19 => .int
  | 20 => .int
  | 21 => .int
  | 22 => .int
  | 23 => .int
  | 24 => .int
  | 25 => .int
  | 26 => .int
  | 27 => .int
  | 28 => .int
  | 29 => .array .int
  | 30 => .array .int
  | 31 => .array .int
  | 32 => .array .int
  | 33 => .array .int
  | 34 => .int
  | 35 => .array .int
  | 36 => .array .int
  | 37 => .array .int
  | 38 => .array .int
  | 39 => .array .int
  | 40 => .array .int
  | 41 => .array .int
  | 42 => .array .int
  | 43 => .array .int
  | 44 => .array .int
  | 45 => .array .int
  | 46 => .int
  | 47 => .int
  | 48 => .int
  | 49 => .array .int
  | 50 => .array .int
  | 51 => .array .int
  | 52 => .array .int
  | 53 => .array .int
  | 54 => .int
  | 55 => .array .int
  | 56 => .array .int
  | 57 => .array .int
  | 58 => .int
  | 59 => .array .int
  | 60 => .int
  | 61 => .int
  | 62 => .int
  | 63 => .array .int
  | 64 => .array .int
  | 65 => .array .int
  | _ => .array .int
abbrev wsX110 : List Cond := u_ws RX11 TX11 67
theorem nmX11 : ∀ a, a < 67 → ∀ b, b < 67 → a ≠ b → (TX11 a).2.1 ≠ (TX11 b).2.1 := by decide +kernel
theorem tyX11_ok : ∀ k, k < 67 → parseFieldDescriptor (TX11 k).2.2.1 = some (tyX11 k) := by decide +kernel
abbrev cX11_init : ByteArray := prog_13_method_1_code
def yX11_init : MethodName := ⟨RX11, "<init>", "()V"⟩
abbrev cX11_isIn : ByteArray := prog_13_method_2_code
def yX11_isIn : MethodName := ⟨RX11, "isIn", "(JJJ)Z"⟩
abbrev cX11_isVillage : ByteArray := prog_13_method_3_code
def yX11_isVillage : MethodName := ⟨RX11, "isVillage", "(I)Z"⟩
abbrev cX11_isNight : ByteArray := prog_13_method_4_code
def yX11_isNight : MethodName := ⟨RX11, "isNight", "(I)Z"⟩
abbrev cX11_pass : ByteArray := prog_13_method_5_code
def yX11_pass : MethodName := ⟨RX11, "pass", "(I)I"⟩
abbrev cX11_road : ByteArray := prog_13_method_6_code
def yX11_road : MethodName := ⟨RX11, "road", "(III)I"⟩
abbrev cX11_findFar : ByteArray := prog_13_method_7_code
def yX11_findFar : MethodName := ⟨RX11, "findFar", "(I)V"⟩
abbrev cX11_far : ByteArray := prog_13_method_8_code
def yX11_far : MethodName := ⟨RX11, "far", "(III)I"⟩
abbrev cX11_isShop : ByteArray := prog_13_method_9_code
def yX11_isShop : MethodName := ⟨RX11, "isShop", "(I)Z"⟩
abbrev cX11_isFrame : ByteArray := prog_13_method_10_code
def yX11_isFrame : MethodName := ⟨RX11, "isFrame", "(I)Z"⟩
abbrev cX11_shop : ByteArray := prog_13_method_11_code
def yX11_shop : MethodName := ⟨RX11, "shop", "(II)I"⟩
abbrev cX11_pays : ByteArray := prog_13_method_12_code
def yX11_pays : MethodName := ⟨RX11, "pays", "(II)I"⟩
abbrev cX11_frame : ByteArray := prog_13_method_13_code
def yX11_frame : MethodName := ⟨RX11, "frame", "(IIII)I"⟩
abbrev cX11_makes : ByteArray := prog_13_method_14_code
def yX11_makes : MethodName := ⟨RX11, "makes", "(I)I"⟩
abbrev cX11_paidRent : ByteArray := prog_13_method_15_code
def yX11_paidRent : MethodName := ⟨RX11, "paidRent", "(I)I"⟩
abbrev cX11_earned : ByteArray := prog_13_method_16_code
def yX11_earned : MethodName := ⟨RX11, "earned", "(I)I"⟩
abbrev cX11_frameTold : ByteArray := prog_13_method_17_code
def yX11_frameTold : MethodName := ⟨RX11, "frameTold", "(II)J"⟩
abbrev cX11_mend : ByteArray := prog_13_method_18_code
def yX11_mend : MethodName := ⟨RX11, "mend", "(II)I"⟩
abbrev cX11_keeps : ByteArray := prog_13_method_19_code
def yX11_keeps : MethodName := ⟨RX11, "keeps", "(I)I"⟩
abbrev cX11_earns : ByteArray := prog_13_method_20_code
def yX11_earns : MethodName := ⟨RX11, "earns", "(I)J"⟩
abbrev cX11_puts : ByteArray := prog_13_method_21_code
def yX11_puts : MethodName := ⟨RX11, "puts", "(II)V"⟩
abbrev cX11_list0 : ByteArray := prog_13_method_22_code
def yX11_list0 : MethodName := ⟨RX11, "list0", "()V"⟩
abbrev cX11_feed : ByteArray := prog_13_method_23_code
def yX11_feed : MethodName := ⟨RX11, "feed", "(IJ)I"⟩
abbrev cX11_isLetter : ByteArray := prog_13_method_24_code
def yX11_isLetter : MethodName := ⟨RX11, "isLetter", "(I)Z"⟩
abbrev cX11_isDigit : ByteArray := prog_13_method_25_code
def yX11_isDigit : MethodName := ⟨RX11, "isDigit", "(I)Z"⟩
abbrev cX11_isWord : ByteArray := prog_13_method_26_code
def yX11_isWord : MethodName := ⟨RX11, "isWord", "(JI)Z"⟩
abbrev cX11_reads : ByteArray := prog_13_method_27_code
def yX11_reads : MethodName := ⟨RX11, "reads", "()V"⟩
abbrev cX11_word : ByteArray := prog_13_method_28_code
def yX11_word : MethodName := ⟨RX11, "word", "()I"⟩
abbrev cX11_waits : ByteArray := prog_13_method_29_code
def yX11_waits : MethodName := ⟨RX11, "waits", "(I)V"⟩
abbrev cX11_works : ByteArray := prog_13_method_30_code
def yX11_works : MethodName := ⟨RX11, "works", "(I)V"⟩
abbrev cX11_parses : ByteArray := prog_13_method_31_code
def yX11_parses : MethodName := ⟨RX11, "parses", "()Z"⟩
abbrev cX11_isText : ByteArray := prog_13_method_32_code
def yX11_isText : MethodName := ⟨RX11, "isText", "()Z"⟩
abbrev cX11_text : ByteArray := prog_13_method_33_code
def yX11_text : MethodName := ⟨RX11, "text", "()I"⟩
abbrev cX11_force : ByteArray := prog_13_method_34_code
def yX11_force : MethodName := ⟨RX11, "force", "(I)I"⟩
abbrev cX11_comesTo : ByteArray := prog_13_method_35_code
def yX11_comesTo : MethodName := ⟨RX11, "comesTo", "(I)I"⟩
abbrev cX11_worked : ByteArray := prog_13_method_36_code
def yX11_worked : MethodName := ⟨RX11, "worked", "(III)I"⟩
abbrev cX11_price : ByteArray := prog_13_method_37_code
def yX11_price : MethodName := ⟨RX11, "price", "(I)I"⟩
abbrev cX11_says : ByteArray := prog_13_method_38_code
def yX11_says : MethodName := ⟨RX11, "says", "(II)J"⟩
abbrev cX11_raid : ByteArray := prog_13_method_39_code
def yX11_raid : MethodName := ⟨RX11, "raid", "(II)I"⟩
abbrev cX11_isStruck : ByteArray := prog_13_method_40_code
def yX11_isStruck : MethodName := ⟨RX11, "isStruck", "(I)Z"⟩
abbrev cX11_hasStruck : ByteArray := prog_13_method_41_code
def yX11_hasStruck : MethodName := ⟨RX11, "hasStruck", "(I)Z"⟩
abbrev cX11_struck : ByteArray := prog_13_method_42_code
def yX11_struck : MethodName := ⟨RX11, "struck", "()I"⟩
abbrev cX11_spared : ByteArray := prog_13_method_43_code
def yX11_spared : MethodName := ⟨RX11, "spared", "()I"⟩
abbrev cX11_pattern : ByteArray := prog_13_method_44_code
def yX11_pattern : MethodName := ⟨RX11, "pattern", "(I)I"⟩
abbrev cX11_fits : ByteArray := prog_13_method_45_code
def yX11_fits : MethodName := ⟨RX11, "fits", "(II)Z"⟩
abbrev cX11_isLeft : ByteArray := prog_13_method_46_code
def yX11_isLeft : MethodName := ⟨RX11, "isLeft", "(III)Z"⟩
abbrev cX11_left : ByteArray := prog_13_method_47_code
def yX11_left : MethodName := ⟨RX11, "left", "()I"⟩
abbrev cX11_form : ByteArray := prog_13_method_48_code
def yX11_form : MethodName := ⟨RX11, "form", "(I)I"⟩
abbrev cX11_sends : ByteArray := prog_13_method_49_code
def yX11_sends : MethodName := ⟨RX11, "sends", "(I)I"⟩
abbrev cX11_isPerson : ByteArray := prog_13_method_50_code
def yX11_isPerson : MethodName := ⟨RX11, "isPerson", "(I)Z"⟩
abbrev cX11_person : ByteArray := prog_13_method_51_code
def yX11_person : MethodName := ⟨RX11, "person", "(I)I"⟩
abbrev cX11_seen : ByteArray := prog_13_method_52_code
def yX11_seen : MethodName := ⟨RX11, "seen", "(IIII)I"⟩
abbrev cX11_away : ByteArray := prog_13_method_53_code
def yX11_away : MethodName := ⟨RX11, "away", "(I)I"⟩
abbrev cX11_could : ByteArray := prog_13_method_54_code
def yX11_could : MethodName := ⟨RX11, "could", "(IIIII)Z"⟩
abbrev cX11_isKnown : ByteArray := prog_13_method_55_code
def yX11_isKnown : MethodName := ⟨RX11, "isKnown", "(I)Z"⟩
abbrev cX11_canBe : ByteArray := prog_13_method_56_code
def yX11_canBe : MethodName := ⟨RX11, "canBe", "(IIII)I"⟩
abbrev cX11_couldRaid : ByteArray := prog_13_method_57_code
def yX11_couldRaid : MethodName := ⟨RX11, "couldRaid", "(III)Z"⟩
abbrev cX11_suspects : ByteArray := prog_13_method_58_code
def yX11_suspects : MethodName := ⟨RX11, "suspects", "(II)I"⟩
abbrev cX11_word_ : ByteArray := prog_13_method_59_code
def yX11_word_ : MethodName := ⟨RX11, "word", "(IIII)I"⟩
abbrev cX11_isFalse : ByteArray := prog_13_method_60_code
def yX11_isFalse : MethodName := ⟨RX11, "isFalse", "(II)Z"⟩
abbrev cX11_falseWords : ByteArray := prog_13_method_61_code
def yX11_falseWords : MethodName := ⟨RX11, "falseWords", "(I)I"⟩
abbrev cX11_paid : ByteArray := prog_13_method_62_code
def yX11_paid : MethodName := ⟨RX11, "paid", "(III)J"⟩
abbrev cX11_hold : ByteArray := prog_13_method_63_code
def yX11_hold : MethodName := ⟨RX11, "hold", "(III)I"⟩
abbrev cX11_heldWithout : ByteArray := prog_13_method_64_code
def yX11_heldWithout : MethodName := ⟨RX11, "heldWithout", "(II)I"⟩
abbrev cX11_held : ByteArray := prog_13_method_65_code
def yX11_held : MethodName := ⟨RX11, "held", "(I)I"⟩
abbrev cX11_hangs : ByteArray := prog_13_method_66_code
def yX11_hangs : MethodName := ⟨RX11, "hangs", "(II)I"⟩
abbrev cX11_meeting : ByteArray := prog_13_method_67_code
def yX11_meeting : MethodName := ⟨RX11, "meeting", "(III)I"⟩
abbrev cX11_taker : ByteArray := prog_13_method_68_code
def yX11_taker : MethodName := ⟨RX11, "taker", "(II)I"⟩
abbrev cX11_swornBy : ByteArray := prog_13_method_69_code
def yX11_swornBy : MethodName := ⟨RX11, "swornBy", "(II)I"⟩
abbrev cX11_sworn : ByteArray := prog_13_method_70_code
def yX11_sworn : MethodName := ⟨RX11, "sworn", "(II)I"⟩
abbrev cX11_bits : ByteArray := prog_13_method_71_code
def yX11_bits : MethodName := ⟨RX11, "bits", "(I)I"⟩
abbrev cX11_swears : ByteArray := prog_13_method_72_code
def yX11_swears : MethodName := ⟨RX11, "swears", "(I)Z"⟩
abbrev cX11_began : ByteArray := prog_13_method_73_code
def yX11_began : MethodName := ⟨RX11, "began", "()I"⟩
abbrev cX11_parties : ByteArray := prog_13_method_74_code
def yX11_parties : MethodName := ⟨RX11, "parties", "(IIII)I"⟩
abbrev cX11_isReached : ByteArray := prog_13_method_75_code
def yX11_isReached : MethodName := ⟨RX11, "isReached", "(III)Z"⟩
abbrev cX11_clause : ByteArray := prog_13_method_76_code
def yX11_clause : MethodName := ⟨RX11, "clause", "(II)I"⟩
abbrev cX11_against : ByteArray := prog_13_method_77_code
def yX11_against : MethodName := ⟨RX11, "against", "(II)I"⟩
abbrev cX11_offer : ByteArray := prog_13_method_78_code
def yX11_offer : MethodName := ⟨RX11, "offer", "(II)I"⟩
abbrev cX11_row : ByteArray := prog_13_method_79_code
def yX11_row : MethodName := ⟨RX11, "row", "(J)I"⟩
abbrev cX11_three : ByteArray := prog_13_method_80_code
def yX11_three : MethodName := ⟨RX11, "three", "(I)I"⟩
abbrev cX11_deed : ByteArray := prog_13_method_81_code
def yX11_deed : MethodName := ⟨RX11, "deed", "(III)I"⟩
abbrev cX11_broken : ByteArray := prog_13_method_82_code
def yX11_broken : MethodName := ⟨RX11, "broken", "(III)I"⟩
abbrev cX11_findPlan : ByteArray := prog_13_method_83_code
def yX11_findPlan : MethodName := ⟨RX11, "findPlan", "(I)V"⟩
abbrev cX11_plan : ByteArray := prog_13_method_84_code
def yX11_plan : MethodName := ⟨RX11, "plan", "(II)I"⟩
abbrev cX11_thatAre : ByteArray := prog_13_method_85_code
def yX11_thatAre : MethodName := ⟨RX11, "thatAre", "(I)I"⟩
abbrev cX11_count : ByteArray := prog_13_method_86_code
def yX11_count : MethodName := ⟨RX11, "count", "(I)I"⟩
abbrev cX11_isSheet : ByteArray := prog_13_method_87_code
def yX11_isSheet : MethodName := ⟨RX11, "isSheet", "(I)Z"⟩
abbrev cX11_sheet : ByteArray := prog_13_method_88_code
def yX11_sheet : MethodName := ⟨RX11, "sheet", "(III)I"⟩
abbrev cX11_narrow : ByteArray := prog_13_method_89_code
def yX11_narrow : MethodName := ⟨RX11, "narrow", "(II)I"⟩
abbrev cX11_cell : ByteArray := prog_13_method_90_code
def yX11_cell : MethodName := ⟨RX11, "cell", "(III)I"⟩
abbrev cX11_copy : ByteArray := prog_13_method_91_code
def yX11_copy : MethodName := ⟨RX11, "copy", "(IIIII)I"⟩
abbrev cX11_paysRow : ByteArray := prog_13_method_92_code
def yX11_paysRow : MethodName := ⟨RX11, "paysRow", "(IIII)I"⟩
abbrev cX11_parent : ByteArray := prog_13_method_93_code
def yX11_parent : MethodName := ⟨RX11, "parent", "(I)I"⟩
abbrev cX11_taken : ByteArray := prog_13_method_94_code
def yX11_taken : MethodName := ⟨RX11, "taken", "(II)I"⟩
def RJx145de : String := "java/io/Serializable"
def TJx145de : u_T := fun k => match k with
  | _ => ("", "", "", false)
def tyJx145de : Nat → FieldType := fun k => match k with
  | _ => .int
abbrev wsJx145de0 : List Cond := u_ws RJx145de TJx145de 0
theorem nmJx145de : ∀ a, a < 0 → ∀ b, b < 0 → a ≠ b → (TJx145de a).2.1 ≠ (TJx145de b).2.1 := by decide +kernel
theorem tyJx145de_ok : ∀ k, k < 0 → parseFieldDescriptor (TJx145de k).2.2.1 = some (tyJx145de k) := by decide +kernel
def RJx9f9b0 : String := "java/lang/CharSequence"
def TJx9f9b0 : u_T := fun k => match k with
  | _ => ("", "", "", false)
def tyJx9f9b0 : Nat → FieldType := fun k => match k with
  | _ => .int
abbrev wsJx9f9b00 : List Cond := u_ws RJx9f9b0 TJx9f9b0 0
theorem nmJx9f9b0 : ∀ a, a < 0 → ∀ b, b < 0 → a ≠ b → (TJx9f9b0 a).2.1 ≠ (TJx9f9b0 b).2.1 := by decide +kernel
theorem tyJx9f9b0_ok : ∀ k, k < 0 → parseFieldDescriptor (TJx9f9b0 k).2.2.1 = some (tyJx9f9b0 k) := by decide +kernel
def RJxb160c : String := "java/lang/Comparable"
def TJxb160c : u_T := fun k => match k with
  | _ => ("", "", "", false)
def tyJxb160c : Nat → FieldType := fun k => match k with
  | _ => .int
abbrev wsJxb160c0 : List Cond := u_ws RJxb160c TJxb160c 0
theorem nmJxb160c : ∀ a, a < 0 → ∀ b, b < 0 → a ≠ b → (TJxb160c a).2.1 ≠ (TJxb160c b).2.1 := by decide +kernel
theorem tyJxb160c_ok : ∀ k, k < 0 → parseFieldDescriptor (TJxb160c k).2.2.1 = some (tyJxb160c k) := by decide +kernel
def RJ6 : String := "java/lang/Integer"
def TJ6 : u_T := fun k => match k with
  | _ => ("", "", "", false)
def tyJ6 : Nat → FieldType := fun k => match k with
  | _ => .int
abbrev wsJ60 : List Cond := u_ws RJ6 TJ6 0
theorem nmJ6 : ∀ a, a < 0 → ∀ b, b < 0 → a ≠ b → (TJ6 a).2.1 ≠ (TJ6 b).2.1 := by decide +kernel
theorem tyJ6_ok : ∀ k, k < 0 → parseFieldDescriptor (TJ6 k).2.2.1 = some (tyJ6 k) := by decide +kernel
abbrev cJ6_bitCount_0f7a4 : ByteArray := prog_14_method_49_code
def yJ6_bitCount_0f7a4 : MethodName := ⟨RJ6, "bitCount", "(I)I"⟩
def RJ9 : String := "java/lang/Math"
def TJ9 : u_T := fun k => match k with
  | _ => ("", "", "", false)
def tyJ9 : Nat → FieldType := fun k => match k with
  | _ => .int
abbrev wsJ90 : List Cond := u_ws RJ9 TJ9 0
theorem nmJ9 : ∀ a, a < 0 → ∀ b, b < 0 → a ≠ b → (TJ9 a).2.1 ≠ (TJ9 b).2.1 := by decide +kernel
theorem tyJ9_ok : ∀ k, k < 0 → parseFieldDescriptor (TJ9 k).2.2.1 = some (tyJ9 k) := by decide +kernel
abbrev cJ9_abs_0f7a4 : ByteArray := prog_15_method_59_code
def yJ9_abs_0f7a4 : MethodName := ⟨RJ9, "abs", "(I)I"⟩
abbrev cJ9_max_7cf53 : ByteArray := prog_15_method_65_code
def yJ9_max_7cf53 : MethodName := ⟨RJ9, "max", "(II)I"⟩
abbrev cJ9_min_7cf53 : ByteArray := prog_15_method_69_code
def yJ9_min_7cf53 : MethodName := ⟨RJ9, "min", "(II)I"⟩
def RJ0 : String := "java/lang/String"
def TJ0 : u_T := fun k => match k with
  | _ => ("", "", "", false)
def tyJ0 : Nat → FieldType := fun k => match k with
  | _ => .int
abbrev wsJ00 : List Cond := u_ws RJ0 TJ0 0
theorem nmJ0 : ∀ a, a < 0 → ∀ b, b < 0 → a ≠ b → (TJ0 a).2.1 ≠ (TJ0 b).2.1 := by decide +kernel
theorem tyJ0_ok : ∀ k, k < 0 → parseFieldDescriptor (TJ0 k).2.2.1 = some (tyJ0 k) := by decide +kernel
abbrev cJ0_length_8abf5 : ByteArray := prog_16_method_54_code
def yJ0_length_8abf5 : MethodName := ⟨RJ0, "length", "()I"⟩
abbrev cJ0_charAt_5068e : ByteArray := prog_16_method_56_code
def yJ0_charAt_5068e : MethodName := ⟨RJ0, "charAt", "(I)C"⟩
abbrev cJ0_coder_7d493 : ByteArray := prog_16_method_152_code
def yJ0_coder_7d493 : MethodName := ⟨RJ0, "coder", "()B"⟩
abbrev cJ0_isLatin1_aae02 : ByteArray := prog_16_method_154_code
def yJ0_isLatin1_aae02 : MethodName := ⟨RJ0, "isLatin1", "()Z"⟩
abbrev cJ0_checkIndex_df160 : ByteArray := prog_16_method_155_code
def yJ0_checkIndex_df160 : MethodName := ⟨RJ0, "checkIndex", "(II)V"⟩
def RJ1 : String := "java/lang/StringLatin1"
def TJ1 : u_T := fun k => match k with
  | _ => ("", "", "", false)
def tyJ1 : Nat → FieldType := fun k => match k with
  | _ => .int
abbrev wsJ10 : List Cond := u_ws RJ1 TJ1 0
theorem nmJ1 : ∀ a, a < 0 → ∀ b, b < 0 → a ≠ b → (TJ1 a).2.1 ≠ (TJ1 b).2.1 := by decide +kernel
theorem tyJ1_ok : ∀ k, k < 0 → parseFieldDescriptor (TJ1 k).2.2.1 = some (tyJ1 k) := by decide +kernel
abbrev cJ1_charAt_3b067 : ByteArray := prog_17_method_2_code
def yJ1_charAt_3b067 : MethodName := ⟨RJ1, "charAt", "([BI)C"⟩
def RJ2 : String := "java/lang/StringUTF16"
def TJ2 : u_T := fun k => match k with
  | _ => ("", "", "", false)
def tyJ2 : Nat → FieldType := fun k => match k with
  | _ => .int
abbrev wsJ20 : List Cond := u_ws RJ2 TJ2 0
theorem nmJ2 : ∀ a, a < 0 → ∀ b, b < 0 → a ≠ b → (TJ2 a).2.1 ≠ (TJ2 b).2.1 := by decide +kernel
theorem tyJ2_ok : ∀ k, k < 0 → parseFieldDescriptor (TJ2 k).2.2.1 = some (tyJ2 k) := by decide +kernel
abbrev cJ2_getChar_3b067 : ByteArray := prog_18_method_5_code
def yJ2_getChar_3b067 : MethodName := ⟨RJ2, "getChar", "([BI)C"⟩
abbrev cJ2_length_9d52b : ByteArray := prog_18_method_6_code
def yJ2_length_9d52b : MethodName := ⟨RJ2, "length", "([B)I"⟩
abbrev cJ2_charAt_3b067 : ByteArray := prog_18_method_83_code
def yJ2_charAt_3b067 : MethodName := ⟨RJ2, "charAt", "([BI)C"⟩
abbrev cJ2_checkIndex_2214a : ByteArray := prog_18_method_91_code
def yJ2_checkIndex_2214a : MethodName := ⟨RJ2, "checkIndex", "(I[B)V"⟩
def RJ10 : String := "java/lang/System"
def TJ10 : u_T := fun k => match k with
  | _ => ("", "", "", false)
def tyJ10 : Nat → FieldType := fun k => match k with
  | _ => .int
abbrev wsJ100 : List Cond := u_ws RJ10 TJ10 0
theorem nmJ10 : ∀ a, a < 0 → ∀ b, b < 0 → a ≠ b → (TJ10 a).2.1 ≠ (TJ10 b).2.1 := by decide +kernel
theorem tyJ10_ok : ∀ k, k < 0 → parseFieldDescriptor (TJ10 k).2.2.1 = some (tyJ10 k) := by decide +kernel
def RJxfd54e : String := "java/lang/constant/Constable"
def TJxfd54e : u_T := fun k => match k with
  | _ => ("", "", "", false)
def tyJxfd54e : Nat → FieldType := fun k => match k with
  | _ => .int
abbrev wsJxfd54e0 : List Cond := u_ws RJxfd54e TJxfd54e 0
theorem nmJxfd54e : ∀ a, a < 0 → ∀ b, b < 0 → a ≠ b → (TJxfd54e a).2.1 ≠ (TJxfd54e b).2.1 := by decide +kernel
theorem tyJxfd54e_ok : ∀ k, k < 0 → parseFieldDescriptor (TJxfd54e k).2.2.1 = some (tyJxfd54e k) := by decide +kernel
def RJx3cf43 : String := "java/lang/constant/ConstantDesc"
def TJx3cf43 : u_T := fun k => match k with
  | _ => ("", "", "", false)
def tyJx3cf43 : Nat → FieldType := fun k => match k with
  | _ => .int
abbrev wsJx3cf430 : List Cond := u_ws RJx3cf43 TJx3cf43 0
theorem nmJx3cf43 : ∀ a, a < 0 → ∀ b, b < 0 → a ≠ b → (TJx3cf43 a).2.1 ≠ (TJx3cf43 b).2.1 := by decide +kernel
theorem tyJx3cf43_ok : ∀ k, k < 0 → parseFieldDescriptor (TJx3cf43 k).2.2.1 = some (tyJx3cf43 k) := by decide +kernel
def RJ7 : String := "java/util/Arrays"
def TJ7 : u_T := fun k => match k with
  | _ => ("", "", "", false)
def tyJ7 : Nat → FieldType := fun k => match k with
  | _ => .int
abbrev wsJ70 : List Cond := u_ws RJ7 TJ7 0
theorem nmJ7 : ∀ a, a < 0 → ∀ b, b < 0 → a ≠ b → (TJ7 a).2.1 ≠ (TJ7 b).2.1 := by decide +kernel
theorem tyJ7_ok : ∀ k, k < 0 → parseFieldDescriptor (TJ7 k).2.2.1 = some (tyJ7 k) := by decide +kernel
abbrev cJ7_fill_53178 : ByteArray := prog_20_method_103_code
def yJ7_fill_53178 : MethodName := ⟨RJ7, "fill", "([II)V"⟩
def RJ3 : String := "jdk/internal/util/Preconditions"
def TJ3 : u_T := fun k => match k with
  | _ => ("", "", "", false)
def tyJ3 : Nat → FieldType := fun k => match k with
  | _ => .int
abbrev wsJ30 : List Cond := u_ws RJ3 TJ3 0
theorem nmJ3 : ∀ a, a < 0 → ∀ b, b < 0 → a ≠ b → (TJ3 a).2.1 ≠ (TJ3 b).2.1 := by decide +kernel
theorem tyJ3_ok : ∀ k, k < 0 → parseFieldDescriptor (TJ3 k).2.2.1 = some (tyJ3 k) := by decide +kernel
abbrev cJ3_checkIndex_8e157 : ByteArray := prog_21_method_11_code
def yJ3_checkIndex_8e157 : MethodName := ⟨RJ3, "checkIndex", "(IILjava/util/function/BiFunction;)I"⟩
def RL : String := "FrameCountyLaw"
abbrev cL_law : ByteArray := code
def yL_law : MethodName := ⟨RL, "law", "([I)Z"⟩
abbrev vwCl : List vw_C := [(RX0, TX0, 4), (RX1, TX1, 6), (RX2, TX2, 5), (RX3, TX3, 9), (RX4, TX4, 3), (RX5, TX5, 3), (RX6, TX6, 4), (RX7, TX7, 16), (RX8, TX8, 2), (RX9, TX9, 10), (RX10, TX10, 14), (RX11, TX11, 67)]
theorem aa_inX0 : ∀ w ∈ wsX00, w ∈ lw_tbl := by decide +kernel
theorem aa_inX1 : ∀ w ∈ wsX10, w ∈ lw_tbl := by decide +kernel
theorem aa_inX2 : ∀ w ∈ wsX20, w ∈ lw_tbl := by decide +kernel
theorem aa_inX3 : ∀ w ∈ wsX30, w ∈ lw_tbl := by decide +kernel
theorem aa_inX4 : ∀ w ∈ wsX40, w ∈ lw_tbl := by decide +kernel
theorem aa_inX5 : ∀ w ∈ wsX50, w ∈ lw_tbl := by decide +kernel
theorem aa_inX6 : ∀ w ∈ wsX60, w ∈ lw_tbl := by decide +kernel
theorem aa_inX7 : ∀ w ∈ wsX70, w ∈ lw_tbl := by decide +kernel
theorem aa_inX8 : ∀ w ∈ wsX80, w ∈ lw_tbl := by decide +kernel
theorem aa_inX9 : ∀ w ∈ wsX90, w ∈ lw_tbl := by decide +kernel
theorem aa_inX10 : ∀ w ∈ wsX100, w ∈ lw_tbl := by decide +kernel
theorem aa_inX11 : ∀ w ∈ wsX110, w ∈ lw_tbl := by decide +kernel
