-- ===== PART A: goes FIRST, ahead of the names: the tables' words, and 'selects' of the private methods out of them =====
/-- a private method of a class that the tables say can be made, by its rows of tables_1 -/
def lw_okq (q : MethodName × Nat) : Prop := (q.1.cls ≠ "java/lang/invoke/MethodHandle" ∧ q.1.cls ≠ "java/lang/invoke/VarHandle") ∧ Cond.instantiable q.1.cls q.2 ∈ tables_1 ∧ Cond.privateMethod q.1 ∈ tables_1 ∧ Cond.instanceMethod q.1 ∈ tables_1
theorem lw_p0 : lw_okq (⟨"VaseCourt", "isMovePeriod", "(I)Z"⟩, 11) := ⟨⟨by decide +kernel, by decide +kernel⟩, List.mem_of_getElem? (i := 23) (by decide +kernel), List.mem_of_getElem? (i := 372) (by decide +kernel), List.mem_of_getElem? (i := 373) (by decide +kernel)⟩
theorem lw_p1 : lw_okq (⟨"VaseCourt", "isPeriod", "(I)Z"⟩, 11) := ⟨⟨by decide +kernel, by decide +kernel⟩, List.mem_of_getElem? (i := 23) (by decide +kernel), List.mem_of_getElem? (i := 388) (by decide +kernel), List.mem_of_getElem? (i := 389) (by decide +kernel)⟩
theorem lw_p2 : lw_okq (⟨"VaseCourt$PaperFile", "standingWithout", "(I)I"⟩, 8) := ⟨⟨by decide +kernel, by decide +kernel⟩, List.mem_of_getElem? (i := 49) (by decide +kernel), List.mem_of_getElem? (i := 400) (by decide +kernel), List.mem_of_getElem? (i := 401) (by decide +kernel)⟩
theorem lw_p3 : lw_okq (⟨"VaseCourt", "isPlace", "(II)Z"⟩, 11) := ⟨⟨by decide +kernel, by decide +kernel⟩, List.mem_of_getElem? (i := 23) (by decide +kernel), List.mem_of_getElem? (i := 420) (by decide +kernel), List.mem_of_getElem? (i := 421) (by decide +kernel)⟩
theorem lw_p4 : lw_okq (⟨"VaseCourt$PaperFile", "landsByKind", "(III)I"⟩, 8) := ⟨⟨by decide +kernel, by decide +kernel⟩, List.mem_of_getElem? (i := 49) (by decide +kernel), List.mem_of_getElem? (i := 428) (by decide +kernel), List.mem_of_getElem? (i := 429) (by decide +kernel)⟩
theorem lw_p5 : lw_okq (⟨"VaseCourt$Chronicle", "beginningsTo", "(II)J"⟩, 7) := ⟨⟨by decide +kernel, by decide +kernel⟩, List.mem_of_getElem? (i := 89) (by decide +kernel), List.mem_of_getElem? (i := 477) (by decide +kernel), List.mem_of_getElem? (i := 478) (by decide +kernel)⟩
theorem lw_p6 : lw_okq (⟨"VaseCourt$Chronicle", "sumBefore", "([JII)J"⟩, 7) := ⟨⟨by decide +kernel, by decide +kernel⟩, List.mem_of_getElem? (i := 89) (by decide +kernel), List.mem_of_getElem? (i := 481) (by decide +kernel), List.mem_of_getElem? (i := 482) (by decide +kernel)⟩
theorem lw_p7 : lw_okq (⟨"VaseCourt$Chronicle", "endsFrom", "(II)J"⟩, 7) := ⟨⟨by decide +kernel, by decide +kernel⟩, List.mem_of_getElem? (i := 89) (by decide +kernel), List.mem_of_getElem? (i := 493) (by decide +kernel), List.mem_of_getElem? (i := 494) (by decide +kernel)⟩
theorem lw_p8 : lw_okq (⟨"VaseCourt$Chronicle", "sumBehind", "([JII)J"⟩, 7) := ⟨⟨by decide +kernel, by decide +kernel⟩, List.mem_of_getElem? (i := 89) (by decide +kernel), List.mem_of_getElem? (i := 497) (by decide +kernel), List.mem_of_getElem? (i := 498) (by decide +kernel)⟩
theorem lw_p9 : lw_okq (⟨"VaseCourt$Chronicle", "goingTo", "(III)J"⟩, 7) := ⟨⟨by decide +kernel, by decide +kernel⟩, List.mem_of_getElem? (i := 89) (by decide +kernel), List.mem_of_getElem? (i := 541) (by decide +kernel), List.mem_of_getElem? (i := 542) (by decide +kernel)⟩
theorem lw_p10 : lw_okq (⟨"VaseCourt$Reader", "advance", "()V"⟩, 9) := ⟨⟨by decide +kernel, by decide +kernel⟩, List.mem_of_getElem? (i := 123) (by decide +kernel), List.mem_of_getElem? (i := 561) (by decide +kernel), List.mem_of_getElem? (i := 562) (by decide +kernel)⟩
theorem lw_p11 : lw_okq (⟨"VaseCourt$Reader", "readWord", "()I"⟩, 9) := ⟨⟨by decide +kernel, by decide +kernel⟩, List.mem_of_getElem? (i := 123) (by decide +kernel), List.mem_of_getElem? (i := 568) (by decide +kernel), List.mem_of_getElem? (i := 569) (by decide +kernel)⟩
theorem lw_p12 : lw_okq (⟨"VaseCourt$Reader", "spells", "(Ljava/lang/String;)Z"⟩, 9) := ⟨⟨by decide +kernel, by decide +kernel⟩, List.mem_of_getElem? (i := 123) (by decide +kernel), List.mem_of_getElem? (i := 573) (by decide +kernel), List.mem_of_getElem? (i := 574) (by decide +kernel)⟩
theorem lw_p13 : lw_okq (⟨"VaseCourt$Reader", "readNumber", "()I"⟩, 9) := ⟨⟨by decide +kernel, by decide +kernel⟩, List.mem_of_getElem? (i := 123) (by decide +kernel), List.mem_of_getElem? (i := 638) (by decide +kernel), List.mem_of_getElem? (i := 639) (by decide +kernel)⟩
theorem lw_p14 : lw_okq (⟨"VaseCourt$Reader", "readSign", "()I"⟩, 9) := ⟨⟨by decide +kernel, by decide +kernel⟩, List.mem_of_getElem? (i := 123) (by decide +kernel), List.mem_of_getElem? (i := 642) (by decide +kernel), List.mem_of_getElem? (i := 643) (by decide +kernel)⟩
theorem lw_p15 : lw_okq (⟨"VaseCourt$Reader", "readPart", "(I)Z"⟩, 9) := ⟨⟨by decide +kernel, by decide +kernel⟩, List.mem_of_getElem? (i := 123) (by decide +kernel), List.mem_of_getElem? (i := 646) (by decide +kernel), List.mem_of_getElem? (i := 647) (by decide +kernel)⟩
def lw_privs_1 : List (MethodName × Nat) := [(⟨"VaseCourt", "isMovePeriod", "(I)Z"⟩, 11), (⟨"VaseCourt", "isPeriod", "(I)Z"⟩, 11), (⟨"VaseCourt$PaperFile", "standingWithout", "(I)I"⟩, 8), (⟨"VaseCourt", "isPlace", "(II)Z"⟩, 11), (⟨"VaseCourt$PaperFile", "landsByKind", "(III)I"⟩, 8), (⟨"VaseCourt$Chronicle", "beginningsTo", "(II)J"⟩, 7), (⟨"VaseCourt$Chronicle", "sumBefore", "([JII)J"⟩, 7), (⟨"VaseCourt$Chronicle", "endsFrom", "(II)J"⟩, 7), (⟨"VaseCourt$Chronicle", "sumBehind", "([JII)J"⟩, 7), (⟨"VaseCourt$Chronicle", "goingTo", "(III)J"⟩, 7), (⟨"VaseCourt$Reader", "advance", "()V"⟩, 9), (⟨"VaseCourt$Reader", "readWord", "()I"⟩, 9), (⟨"VaseCourt$Reader", "spells", "(Ljava/lang/String;)Z"⟩, 9), (⟨"VaseCourt$Reader", "readNumber", "()I"⟩, 9), (⟨"VaseCourt$Reader", "readSign", "()I"⟩, 9), (⟨"VaseCourt$Reader", "readPart", "(I)Z"⟩, 9)]
theorem lw_r1 : ∀ q ∈ lw_privs_1, lw_okq q := List.forall_mem_cons.mpr ⟨lw_p0, List.forall_mem_cons.mpr ⟨lw_p1, List.forall_mem_cons.mpr ⟨lw_p2, List.forall_mem_cons.mpr ⟨lw_p3, List.forall_mem_cons.mpr ⟨lw_p4, List.forall_mem_cons.mpr ⟨lw_p5, List.forall_mem_cons.mpr ⟨lw_p6, List.forall_mem_cons.mpr ⟨lw_p7, List.forall_mem_cons.mpr ⟨lw_p8, List.forall_mem_cons.mpr ⟨lw_p9, List.forall_mem_cons.mpr ⟨lw_p10, List.forall_mem_cons.mpr ⟨lw_p11, List.forall_mem_cons.mpr ⟨lw_p12, List.forall_mem_cons.mpr ⟨lw_p13, List.forall_mem_cons.mpr ⟨lw_p14, List.forall_mem_cons.mpr ⟨lw_p15, fun _ h => absurd h List.not_mem_nil⟩⟩⟩⟩⟩⟩⟩⟩⟩⟩⟩⟩⟩⟩⟩⟩
theorem lw_p16 : lw_okq (⟨"VaseCourt$Reader", "pass", "(I)Z"⟩, 9) := ⟨⟨by decide +kernel, by decide +kernel⟩, List.mem_of_getElem? (i := 123) (by decide +kernel), List.mem_of_getElem? (i := 650) (by decide +kernel), List.mem_of_getElem? (i := 651) (by decide +kernel)⟩
theorem lw_p17 : lw_okq (⟨"VaseCourt$Reader", "readOr", "(I)Z"⟩, 9) := ⟨⟨by decide +kernel, by decide +kernel⟩, List.mem_of_getElem? (i := 123) (by decide +kernel), List.mem_of_getElem? (i := 654) (by decide +kernel), List.mem_of_getElem? (i := 655) (by decide +kernel)⟩
theorem lw_p18 : lw_okq (⟨"VaseCourt$Reader", "readAnd", "(I)Z"⟩, 9) := ⟨⟨by decide +kernel, by decide +kernel⟩, List.mem_of_getElem? (i := 123) (by decide +kernel), List.mem_of_getElem? (i := 658) (by decide +kernel), List.mem_of_getElem? (i := 659) (by decide +kernel)⟩
theorem lw_p19 : lw_okq (⟨"VaseCourt$Reader", "readNot", "(I)Z"⟩, 9) := ⟨⟨by decide +kernel, by decide +kernel⟩, List.mem_of_getElem? (i := 123) (by decide +kernel), List.mem_of_getElem? (i := 662) (by decide +kernel), List.mem_of_getElem? (i := 663) (by decide +kernel)⟩
theorem lw_p20 : lw_okq (⟨"VaseCourt$Reader", "write", "(I)Z"⟩, 9) := ⟨⟨by decide +kernel, by decide +kernel⟩, List.mem_of_getElem? (i := 123) (by decide +kernel), List.mem_of_getElem? (i := 666) (by decide +kernel), List.mem_of_getElem? (i := 667) (by decide +kernel)⟩
theorem lw_p21 : lw_okq (⟨"VaseCourt$Reader", "readSum", "(I)Z"⟩, 9) := ⟨⟨by decide +kernel, by decide +kernel⟩, List.mem_of_getElem? (i := 123) (by decide +kernel), List.mem_of_getElem? (i := 670) (by decide +kernel), List.mem_of_getElem? (i := 671) (by decide +kernel)⟩
theorem lw_p22 : lw_okq (⟨"VaseCourt$Reader", "readTerm", "(I)Z"⟩, 9) := ⟨⟨by decide +kernel, by decide +kernel⟩, List.mem_of_getElem? (i := 123) (by decide +kernel), List.mem_of_getElem? (i := 674) (by decide +kernel), List.mem_of_getElem? (i := 675) (by decide +kernel)⟩
theorem lw_p23 : lw_okq (⟨"VaseCourt$Reader", "readOne", "(I)Z"⟩, 9) := ⟨⟨by decide +kernel, by decide +kernel⟩, List.mem_of_getElem? (i := 123) (by decide +kernel), List.mem_of_getElem? (i := 678) (by decide +kernel), List.mem_of_getElem? (i := 679) (by decide +kernel)⟩
theorem lw_p24 : lw_okq (⟨"VaseCourt$LawBook", "look", "(III)LVaseCourt$Text;"⟩, 11) := ⟨⟨by decide +kernel, by decide +kernel⟩, List.mem_of_getElem? (i := 160) (by decide +kernel), List.mem_of_getElem? (i := 728) (by decide +kernel), List.mem_of_getElem? (i := 729) (by decide +kernel)⟩
theorem lw_p25 : lw_okq (⟨"VaseCourt$LawBook", "name", "(II)V"⟩, 11) := ⟨⟨by decide +kernel, by decide +kernel⟩, List.mem_of_getElem? (i := 160) (by decide +kernel), List.mem_of_getElem? (i := 732) (by decide +kernel), List.mem_of_getElem? (i := 733) (by decide +kernel)⟩
theorem lw_p26 : lw_okq (⟨"VaseCourt$LawBook", "valueOf", "([III)I"⟩, 11) := ⟨⟨by decide +kernel, by decide +kernel⟩, List.mem_of_getElem? (i := 160) (by decide +kernel), List.mem_of_getElem? (i := 739) (by decide +kernel), List.mem_of_getElem? (i := 740) (by decide +kernel)⟩
theorem lw_p27 : lw_okq (⟨"VaseCourt", "giveAll", "()V"⟩, 11) := ⟨⟨by decide +kernel, by decide +kernel⟩, List.mem_of_getElem? (i := 23) (by decide +kernel), List.mem_of_getElem? (i := 757) (by decide +kernel), List.mem_of_getElem? (i := 758) (by decide +kernel)⟩
theorem lw_p28 : lw_okq (⟨"VaseCourt$Bench", "goOn", "(III)V"⟩, 8) := ⟨⟨by decide +kernel, by decide +kernel⟩, List.mem_of_getElem? (i := 218) (by decide +kernel), List.mem_of_getElem? (i := 767) (by decide +kernel), List.mem_of_getElem? (i := 768) (by decide +kernel)⟩
theorem lw_p29 : lw_okq (⟨"VaseCourt$Sherds", "findFollowers", "()V"⟩, 7) := ⟨⟨by decide +kernel, by decide +kernel⟩, List.mem_of_getElem? (i := 263) (by decide +kernel), List.mem_of_getElem? (i := 902) (by decide +kernel), List.mem_of_getElem? (i := 903) (by decide +kernel)⟩
theorem lw_p30 : lw_okq (⟨"VaseCourt$Sherds", "findStarts", "()I"⟩, 7) := ⟨⟨by decide +kernel, by decide +kernel⟩, List.mem_of_getElem? (i := 263) (by decide +kernel), List.mem_of_getElem? (i := 907) (by decide +kernel), List.mem_of_getElem? (i := 908) (by decide +kernel)⟩
theorem lw_p31 : lw_okq (⟨"VaseCourt$Sherds", "leastOf", "(I)I"⟩, 7) := ⟨⟨by decide +kernel, by decide +kernel⟩, List.mem_of_getElem? (i := 263) (by decide +kernel), List.mem_of_getElem? (i := 914) (by decide +kernel), List.mem_of_getElem? (i := 915) (by decide +kernel)⟩
def lw_privs_2 : List (MethodName × Nat) := [(⟨"VaseCourt$Reader", "pass", "(I)Z"⟩, 9), (⟨"VaseCourt$Reader", "readOr", "(I)Z"⟩, 9), (⟨"VaseCourt$Reader", "readAnd", "(I)Z"⟩, 9), (⟨"VaseCourt$Reader", "readNot", "(I)Z"⟩, 9), (⟨"VaseCourt$Reader", "write", "(I)Z"⟩, 9), (⟨"VaseCourt$Reader", "readSum", "(I)Z"⟩, 9), (⟨"VaseCourt$Reader", "readTerm", "(I)Z"⟩, 9), (⟨"VaseCourt$Reader", "readOne", "(I)Z"⟩, 9), (⟨"VaseCourt$LawBook", "look", "(III)LVaseCourt$Text;"⟩, 11), (⟨"VaseCourt$LawBook", "name", "(II)V"⟩, 11), (⟨"VaseCourt$LawBook", "valueOf", "([III)I"⟩, 11), (⟨"VaseCourt", "giveAll", "()V"⟩, 11), (⟨"VaseCourt$Bench", "goOn", "(III)V"⟩, 8), (⟨"VaseCourt$Sherds", "findFollowers", "()V"⟩, 7), (⟨"VaseCourt$Sherds", "findStarts", "()I"⟩, 7), (⟨"VaseCourt$Sherds", "leastOf", "(I)I"⟩, 7)]
theorem lw_r2 : ∀ q ∈ lw_privs_2, lw_okq q := List.forall_mem_cons.mpr ⟨lw_p16, List.forall_mem_cons.mpr ⟨lw_p17, List.forall_mem_cons.mpr ⟨lw_p18, List.forall_mem_cons.mpr ⟨lw_p19, List.forall_mem_cons.mpr ⟨lw_p20, List.forall_mem_cons.mpr ⟨lw_p21, List.forall_mem_cons.mpr ⟨lw_p22, List.forall_mem_cons.mpr ⟨lw_p23, List.forall_mem_cons.mpr ⟨lw_p24, List.forall_mem_cons.mpr ⟨lw_p25, List.forall_mem_cons.mpr ⟨lw_p26, List.forall_mem_cons.mpr ⟨lw_p27, List.forall_mem_cons.mpr ⟨lw_p28, List.forall_mem_cons.mpr ⟨lw_p29, List.forall_mem_cons.mpr ⟨lw_p30, List.forall_mem_cons.mpr ⟨lw_p31, fun _ h => absurd h List.not_mem_nil⟩⟩⟩⟩⟩⟩⟩⟩⟩⟩⟩⟩⟩⟩⟩⟩
theorem lw_p32 : lw_okq (⟨"VaseCourt$Records", "matchesOneOf", "(II)Z"⟩, 4) := ⟨⟨by decide +kernel, by decide +kernel⟩, List.mem_of_getElem? (i := 293) (by decide +kernel), List.mem_of_getElem? (i := 960) (by decide +kernel), List.mem_of_getElem? (i := 961) (by decide +kernel)⟩
theorem lw_p33 : lw_okq (⟨"VaseCourt$Records", "tellsCopy", "(I)Z"⟩, 4) := ⟨⟨by decide +kernel, by decide +kernel⟩, List.mem_of_getElem? (i := 293) (by decide +kernel), List.mem_of_getElem? (i := 974) (by decide +kernel), List.mem_of_getElem? (i := 975) (by decide +kernel)⟩
theorem lw_p34 : lw_okq (⟨"VaseCourt", "paperFrom", "(II)I"⟩, 11) := ⟨⟨by decide +kernel, by decide +kernel⟩, List.mem_of_getElem? (i := 23) (by decide +kernel), List.mem_of_getElem? (i := 1032) (by decide +kernel), List.mem_of_getElem? (i := 1033) (by decide +kernel)⟩
theorem lw_p35 : lw_okq (⟨"VaseCourtModel", "spell", "(IJ)V"⟩, 61) := ⟨⟨by decide +kernel, by decide +kernel⟩, List.mem_of_getElem? (i := 1051) (by decide +kernel), List.mem_of_getElem? (i := 1058) (by decide +kernel), List.mem_of_getElem? (i := 1059) (by decide +kernel)⟩
theorem lw_p36 : lw_okq (⟨"VaseCourtModel", "isPeriod", "(I)Z"⟩, 61) := ⟨⟨by decide +kernel, by decide +kernel⟩, List.mem_of_getElem? (i := 1051) (by decide +kernel), List.mem_of_getElem? (i := 1267) (by decide +kernel), List.mem_of_getElem? (i := 1268) (by decide +kernel)⟩
theorem lw_p37 : lw_okq (⟨"VaseCourtModel", "isPaper", "(I)Z"⟩, 61) := ⟨⟨by decide +kernel, by decide +kernel⟩, List.mem_of_getElem? (i := 1051) (by decide +kernel), List.mem_of_getElem? (i := 1275) (by decide +kernel), List.mem_of_getElem? (i := 1276) (by decide +kernel)⟩
theorem lw_p38 : lw_okq (⟨"VaseCourtModel", "standing", "(I)I"⟩, 61) := ⟨⟨by decide +kernel, by decide +kernel⟩, List.mem_of_getElem? (i := 1051) (by decide +kernel), List.mem_of_getElem? (i := 1279) (by decide +kernel), List.mem_of_getElem? (i := 1280) (by decide +kernel)⟩
theorem lw_p39 : lw_okq (⟨"VaseCourtModel", "isPlace", "(II)Z"⟩, 61) := ⟨⟨by decide +kernel, by decide +kernel⟩, List.mem_of_getElem? (i := 1051) (by decide +kernel), List.mem_of_getElem? (i := 1287) (by decide +kernel), List.mem_of_getElem? (i := 1288) (by decide +kernel)⟩
theorem lw_p40 : lw_okq (⟨"VaseCourtModel", "lets", "(III)Z"⟩, 61) := ⟨⟨by decide +kernel, by decide +kernel⟩, List.mem_of_getElem? (i := 1051) (by decide +kernel), List.mem_of_getElem? (i := 1291) (by decide +kernel), List.mem_of_getElem? (i := 1292) (by decide +kernel)⟩
theorem lw_p41 : lw_okq (⟨"VaseCourtModel", "all", "()J"⟩, 61) := ⟨⟨by decide +kernel, by decide +kernel⟩, List.mem_of_getElem? (i := 1051) (by decide +kernel), List.mem_of_getElem? (i := 1310) (by decide +kernel), List.mem_of_getElem? (i := 1311) (by decide +kernel)⟩
theorem lw_p42 : lw_okq (⟨"VaseCourtModel", "layOut", "()V"⟩, 61) := ⟨⟨by decide +kernel, by decide +kernel⟩, List.mem_of_getElem? (i := 1051) (by decide +kernel), List.mem_of_getElem? (i := 1314) (by decide +kernel), List.mem_of_getElem? (i := 1315) (by decide +kernel)⟩
theorem lw_p43 : lw_okq (⟨"VaseCourtModel", "openWays", "(III)I"⟩, 61) := ⟨⟨by decide +kernel, by decide +kernel⟩, List.mem_of_getElem? (i := 1051) (by decide +kernel), List.mem_of_getElem? (i := 1318) (by decide +kernel), List.mem_of_getElem? (i := 1319) (by decide +kernel)⟩
theorem lw_p44 : lw_okq (⟨"VaseCourtModel", "counted", "()J"⟩, 61) := ⟨⟨by decide +kernel, by decide +kernel⟩, List.mem_of_getElem? (i := 1051) (by decide +kernel), List.mem_of_getElem? (i := 1322) (by decide +kernel), List.mem_of_getElem? (i := 1323) (by decide +kernel)⟩
theorem lw_p45 : lw_okq (⟨"VaseCourtModel", "through", "(II)J"⟩, 61) := ⟨⟨by decide +kernel, by decide +kernel⟩, List.mem_of_getElem? (i := 1051) (by decide +kernel), List.mem_of_getElem? (i := 1331) (by decide +kernel), List.mem_of_getElem? (i := 1332) (by decide +kernel)⟩
theorem lw_p46 : lw_okq (⟨"VaseCourtModel", "spread", "(II)V"⟩, 61) := ⟨⟨by decide +kernel, by decide +kernel⟩, List.mem_of_getElem? (i := 1051) (by decide +kernel), List.mem_of_getElem? (i := 1339) (by decide +kernel), List.mem_of_getElem? (i := 1340) (by decide +kernel)⟩
theorem lw_p47 : lw_okq (⟨"VaseCourtModel", "read", "(IIIII)I"⟩, 61) := ⟨⟨by decide +kernel, by decide +kernel⟩, List.mem_of_getElem? (i := 1051) (by decide +kernel), List.mem_of_getElem? (i := 1355) (by decide +kernel), List.mem_of_getElem? (i := 1356) (by decide +kernel)⟩
def lw_privs_3 : List (MethodName × Nat) := [(⟨"VaseCourt$Records", "matchesOneOf", "(II)Z"⟩, 4), (⟨"VaseCourt$Records", "tellsCopy", "(I)Z"⟩, 4), (⟨"VaseCourt", "paperFrom", "(II)I"⟩, 11), (⟨"VaseCourtModel", "spell", "(IJ)V"⟩, 61), (⟨"VaseCourtModel", "isPeriod", "(I)Z"⟩, 61), (⟨"VaseCourtModel", "isPaper", "(I)Z"⟩, 61), (⟨"VaseCourtModel", "standing", "(I)I"⟩, 61), (⟨"VaseCourtModel", "isPlace", "(II)Z"⟩, 61), (⟨"VaseCourtModel", "lets", "(III)Z"⟩, 61), (⟨"VaseCourtModel", "all", "()J"⟩, 61), (⟨"VaseCourtModel", "layOut", "()V"⟩, 61), (⟨"VaseCourtModel", "openWays", "(III)I"⟩, 61), (⟨"VaseCourtModel", "counted", "()J"⟩, 61), (⟨"VaseCourtModel", "through", "(II)J"⟩, 61), (⟨"VaseCourtModel", "spread", "(II)V"⟩, 61), (⟨"VaseCourtModel", "read", "(IIIII)I"⟩, 61)]
theorem lw_r3 : ∀ q ∈ lw_privs_3, lw_okq q := List.forall_mem_cons.mpr ⟨lw_p32, List.forall_mem_cons.mpr ⟨lw_p33, List.forall_mem_cons.mpr ⟨lw_p34, List.forall_mem_cons.mpr ⟨lw_p35, List.forall_mem_cons.mpr ⟨lw_p36, List.forall_mem_cons.mpr ⟨lw_p37, List.forall_mem_cons.mpr ⟨lw_p38, List.forall_mem_cons.mpr ⟨lw_p39, List.forall_mem_cons.mpr ⟨lw_p40, List.forall_mem_cons.mpr ⟨lw_p41, List.forall_mem_cons.mpr ⟨lw_p42, List.forall_mem_cons.mpr ⟨lw_p43, List.forall_mem_cons.mpr ⟨lw_p44, List.forall_mem_cons.mpr ⟨lw_p45, List.forall_mem_cons.mpr ⟨lw_p46, List.forall_mem_cons.mpr ⟨lw_p47, fun _ h => absurd h List.not_mem_nil⟩⟩⟩⟩⟩⟩⟩⟩⟩⟩⟩⟩⟩⟩⟩⟩
theorem lw_p48 : lw_okq (⟨"VaseCourtModel", "next", "()V"⟩, 61) := ⟨⟨by decide +kernel, by decide +kernel⟩, List.mem_of_getElem? (i := 1051) (by decide +kernel), List.mem_of_getElem? (i := 1359) (by decide +kernel), List.mem_of_getElem? (i := 1360) (by decide +kernel)⟩
theorem lw_p49 : lw_okq (⟨"VaseCourtModel", "byteAt", "(I)I"⟩, 61) := ⟨⟨by decide +kernel, by decide +kernel⟩, List.mem_of_getElem? (i := 1051) (by decide +kernel), List.mem_of_getElem? (i := 1363) (by decide +kernel), List.mem_of_getElem? (i := 1364) (by decide +kernel)⟩
theorem lw_p50 : lw_okq (⟨"VaseCourtModel", "part", "(J)I"⟩, 61) := ⟨⟨by decide +kernel, by decide +kernel⟩, List.mem_of_getElem? (i := 1051) (by decide +kernel), List.mem_of_getElem? (i := 1373) (by decide +kernel), List.mem_of_getElem? (i := 1374) (by decide +kernel)⟩
theorem lw_p51 : lw_okq (⟨"VaseCourtModel", "isWord", "(J)Z"⟩, 61) := ⟨⟨by decide +kernel, by decide +kernel⟩, List.mem_of_getElem? (i := 1051) (by decide +kernel), List.mem_of_getElem? (i := 1377) (by decide +kernel), List.mem_of_getElem? (i := 1378) (by decide +kernel)⟩
theorem lw_p52 : lw_okq (⟨"VaseCourtModel", "fail", "()V"⟩, 61) := ⟨⟨by decide +kernel, by decide +kernel⟩, List.mem_of_getElem? (i := 1051) (by decide +kernel), List.mem_of_getElem? (i := 1381) (by decide +kernel), List.mem_of_getElem? (i := 1382) (by decide +kernel)⟩
theorem lw_p53 : lw_okq (⟨"VaseCourtModel", "either", "()I"⟩, 61) := ⟨⟨by decide +kernel, by decide +kernel⟩, List.mem_of_getElem? (i := 1051) (by decide +kernel), List.mem_of_getElem? (i := 1385) (by decide +kernel), List.mem_of_getElem? (i := 1386) (by decide +kernel)⟩
theorem lw_p54 : lw_okq (⟨"VaseCourtModel", "both", "()I"⟩, 61) := ⟨⟨by decide +kernel, by decide +kernel⟩, List.mem_of_getElem? (i := 1051) (by decide +kernel), List.mem_of_getElem? (i := 1389) (by decide +kernel), List.mem_of_getElem? (i := 1390) (by decide +kernel)⟩
theorem lw_p55 : lw_okq (⟨"VaseCourtModel", "not", "()I"⟩, 61) := ⟨⟨by decide +kernel, by decide +kernel⟩, List.mem_of_getElem? (i := 1051) (by decide +kernel), List.mem_of_getElem? (i := 1393) (by decide +kernel), List.mem_of_getElem? (i := 1394) (by decide +kernel)⟩
theorem lw_p56 : lw_okq (⟨"VaseCourtModel", "opens", "()Z"⟩, 61) := ⟨⟨by decide +kernel, by decide +kernel⟩, List.mem_of_getElem? (i := 1051) (by decide +kernel), List.mem_of_getElem? (i := 1398) (by decide +kernel), List.mem_of_getElem? (i := 1399) (by decide +kernel)⟩
theorem lw_p57 : lw_okq (⟨"VaseCourtModel", "added", "()I"⟩, 61) := ⟨⟨by decide +kernel, by decide +kernel⟩, List.mem_of_getElem? (i := 1051) (by decide +kernel), List.mem_of_getElem? (i := 1402) (by decide +kernel), List.mem_of_getElem? (i := 1403) (by decide +kernel)⟩
theorem lw_p58 : lw_okq (⟨"VaseCourtModel", "term", "()I"⟩, 61) := ⟨⟨by decide +kernel, by decide +kernel⟩, List.mem_of_getElem? (i := 1051) (by decide +kernel), List.mem_of_getElem? (i := 1406) (by decide +kernel), List.mem_of_getElem? (i := 1407) (by decide +kernel)⟩
theorem lw_p59 : lw_okq (⟨"VaseCourtModel", "one", "()I"⟩, 61) := ⟨⟨by decide +kernel, by decide +kernel⟩, List.mem_of_getElem? (i := 1051) (by decide +kernel), List.mem_of_getElem? (i := 1410) (by decide +kernel), List.mem_of_getElem? (i := 1411) (by decide +kernel)⟩
theorem lw_p60 : lw_okq (⟨"VaseCourtModel", "isSign", "(I)Z"⟩, 61) := ⟨⟨by decide +kernel, by decide +kernel⟩, List.mem_of_getElem? (i := 1051) (by decide +kernel), List.mem_of_getElem? (i := 1414) (by decide +kernel), List.mem_of_getElem? (i := 1415) (by decide +kernel)⟩
theorem lw_p61 : lw_okq (⟨"VaseCourtModel", "name", "()I"⟩, 61) := ⟨⟨by decide +kernel, by decide +kernel⟩, List.mem_of_getElem? (i := 1051) (by decide +kernel), List.mem_of_getElem? (i := 1418) (by decide +kernel), List.mem_of_getElem? (i := 1419) (by decide +kernel)⟩
theorem lw_p62 : lw_okq (⟨"VaseCourtModel", "theLaw", "(II)I"⟩, 61) := ⟨⟨by decide +kernel, by decide +kernel⟩, List.mem_of_getElem? (i := 1051) (by decide +kernel), List.mem_of_getElem? (i := 1441) (by decide +kernel), List.mem_of_getElem? (i := 1442) (by decide +kernel)⟩
theorem lw_p63 : lw_okq (⟨"VaseCourtModel", "give", "()V"⟩, 61) := ⟨⟨by decide +kernel, by decide +kernel⟩, List.mem_of_getElem? (i := 1051) (by decide +kernel), List.mem_of_getElem? (i := 1453) (by decide +kernel), List.mem_of_getElem? (i := 1454) (by decide +kernel)⟩
def lw_privs_4 : List (MethodName × Nat) := [(⟨"VaseCourtModel", "next", "()V"⟩, 61), (⟨"VaseCourtModel", "byteAt", "(I)I"⟩, 61), (⟨"VaseCourtModel", "part", "(J)I"⟩, 61), (⟨"VaseCourtModel", "isWord", "(J)Z"⟩, 61), (⟨"VaseCourtModel", "fail", "()V"⟩, 61), (⟨"VaseCourtModel", "either", "()I"⟩, 61), (⟨"VaseCourtModel", "both", "()I"⟩, 61), (⟨"VaseCourtModel", "not", "()I"⟩, 61), (⟨"VaseCourtModel", "opens", "()Z"⟩, 61), (⟨"VaseCourtModel", "added", "()I"⟩, 61), (⟨"VaseCourtModel", "term", "()I"⟩, 61), (⟨"VaseCourtModel", "one", "()I"⟩, 61), (⟨"VaseCourtModel", "isSign", "(I)Z"⟩, 61), (⟨"VaseCourtModel", "name", "()I"⟩, 61), (⟨"VaseCourtModel", "theLaw", "(II)I"⟩, 61), (⟨"VaseCourtModel", "give", "()V"⟩, 61)]
theorem lw_r4 : ∀ q ∈ lw_privs_4, lw_okq q := List.forall_mem_cons.mpr ⟨lw_p48, List.forall_mem_cons.mpr ⟨lw_p49, List.forall_mem_cons.mpr ⟨lw_p50, List.forall_mem_cons.mpr ⟨lw_p51, List.forall_mem_cons.mpr ⟨lw_p52, List.forall_mem_cons.mpr ⟨lw_p53, List.forall_mem_cons.mpr ⟨lw_p54, List.forall_mem_cons.mpr ⟨lw_p55, List.forall_mem_cons.mpr ⟨lw_p56, List.forall_mem_cons.mpr ⟨lw_p57, List.forall_mem_cons.mpr ⟨lw_p58, List.forall_mem_cons.mpr ⟨lw_p59, List.forall_mem_cons.mpr ⟨lw_p60, List.forall_mem_cons.mpr ⟨lw_p61, List.forall_mem_cons.mpr ⟨lw_p62, List.forall_mem_cons.mpr ⟨lw_p63, fun _ h => absurd h List.not_mem_nil⟩⟩⟩⟩⟩⟩⟩⟩⟩⟩⟩⟩⟩⟩⟩⟩
theorem lw_p64 : lw_okq (⟨"VaseCourtModel", "judgeSteps", "()V"⟩, 61) := ⟨⟨by decide +kernel, by decide +kernel⟩, List.mem_of_getElem? (i := 1051) (by decide +kernel), List.mem_of_getElem? (i := 1457) (by decide +kernel), List.mem_of_getElem? (i := 1458) (by decide +kernel)⟩
theorem lw_p65 : lw_okq (⟨"VaseCourtModel", "pairUp", "()V"⟩, 61) := ⟨⟨by decide +kernel, by decide +kernel⟩, List.mem_of_getElem? (i := 1051) (by decide +kernel), List.mem_of_getElem? (i := 1492) (by decide +kernel), List.mem_of_getElem? (i := 1493) (by decide +kernel)⟩
theorem lw_p66 : lw_okq (⟨"VaseCourtModel", "ofTwo", "(IJ)J"⟩, 61) := ⟨⟨by decide +kernel, by decide +kernel⟩, List.mem_of_getElem? (i := 1051) (by decide +kernel), List.mem_of_getElem? (i := 1496) (by decide +kernel), List.mem_of_getElem? (i := 1497) (by decide +kernel)⟩
theorem lw_p67 : lw_okq (⟨"VaseCourtModel", "leastAmong", "(IZJ)J"⟩, 61) := ⟨⟨by decide +kernel, by decide +kernel⟩, List.mem_of_getElem? (i := 1051) (by decide +kernel), List.mem_of_getElem? (i := 1500) (by decide +kernel), List.mem_of_getElem? (i := 1501) (by decide +kernel)⟩
theorem lw_p68 : lw_okq (⟨"VaseCourtModel", "isJoined", "(II)Z"⟩, 61) := ⟨⟨by decide +kernel, by decide +kernel⟩, List.mem_of_getElem? (i := 1051) (by decide +kernel), List.mem_of_getElem? (i := 1520) (by decide +kernel), List.mem_of_getElem? (i := 1521) (by decide +kernel)⟩
theorem lw_p69 : lw_okq (⟨"VaseCourtModel", "findRow", "()V"⟩, 61) := ⟨⟨by decide +kernel, by decide +kernel⟩, List.mem_of_getElem? (i := 1051) (by decide +kernel), List.mem_of_getElem? (i := 1528) (by decide +kernel), List.mem_of_getElem? (i := 1529) (by decide +kernel)⟩
theorem lw_p70 : lw_okq (⟨"VaseCourtModel", "findThings", "()V"⟩, 61) := ⟨⟨by decide +kernel, by decide +kernel⟩, List.mem_of_getElem? (i := 1051) (by decide +kernel), List.mem_of_getElem? (i := 1540) (by decide +kernel), List.mem_of_getElem? (i := 1541) (by decide +kernel)⟩
theorem lw_p71 : lw_okq (⟨"VaseCourtModel", "match", "(II)Z"⟩, 61) := ⟨⟨by decide +kernel, by decide +kernel⟩, List.mem_of_getElem? (i := 1051) (by decide +kernel), List.mem_of_getElem? (i := 1544) (by decide +kernel), List.mem_of_getElem? (i := 1545) (by decide +kernel)⟩
theorem lw_p72 : lw_okq (⟨"VaseCourtModel", "areAtOdds", "(II)Z"⟩, 61) := ⟨⟨by decide +kernel, by decide +kernel⟩, List.mem_of_getElem? (i := 1051) (by decide +kernel), List.mem_of_getElem? (i := 1548) (by decide +kernel), List.mem_of_getElem? (i := 1549) (by decide +kernel)⟩
theorem lw_p73 : lw_okq (⟨"VaseCourtModel", "hasCopy", "(I)Z"⟩, 61) := ⟨⟨by decide +kernel, by decide +kernel⟩, List.mem_of_getElem? (i := 1051) (by decide +kernel), List.mem_of_getElem? (i := 1556) (by decide +kernel), List.mem_of_getElem? (i := 1557) (by decide +kernel)⟩
def lw_privs_5 : List (MethodName × Nat) := [(⟨"VaseCourtModel", "judgeSteps", "()V"⟩, 61), (⟨"VaseCourtModel", "pairUp", "()V"⟩, 61), (⟨"VaseCourtModel", "ofTwo", "(IJ)J"⟩, 61), (⟨"VaseCourtModel", "leastAmong", "(IZJ)J"⟩, 61), (⟨"VaseCourtModel", "isJoined", "(II)Z"⟩, 61), (⟨"VaseCourtModel", "findRow", "()V"⟩, 61), (⟨"VaseCourtModel", "findThings", "()V"⟩, 61), (⟨"VaseCourtModel", "match", "(II)Z"⟩, 61), (⟨"VaseCourtModel", "areAtOdds", "(II)Z"⟩, 61), (⟨"VaseCourtModel", "hasCopy", "(I)Z"⟩, 61)]
theorem lw_r5 : ∀ q ∈ lw_privs_5, lw_okq q := List.forall_mem_cons.mpr ⟨lw_p64, List.forall_mem_cons.mpr ⟨lw_p65, List.forall_mem_cons.mpr ⟨lw_p66, List.forall_mem_cons.mpr ⟨lw_p67, List.forall_mem_cons.mpr ⟨lw_p68, List.forall_mem_cons.mpr ⟨lw_p69, List.forall_mem_cons.mpr ⟨lw_p70, List.forall_mem_cons.mpr ⟨lw_p71, List.forall_mem_cons.mpr ⟨lw_p72, List.forall_mem_cons.mpr ⟨lw_p73, fun _ h => absurd h List.not_mem_nil⟩⟩⟩⟩⟩⟩⟩⟩⟩⟩
def lw_privs : List (MethodName × Nat) := lw_privs_1 ++ (lw_privs_2 ++ (lw_privs_3 ++ (lw_privs_4 ++ (lw_privs_5))))
def lw_tbl : List Cond := k2_sels lw_privs ++ tables_1
theorem lw_privs_ok : ∀ q ∈ lw_privs, lw_okq q := by
  show ∀ q ∈ lw_privs_1 ++ (lw_privs_2 ++ (lw_privs_3 ++ (lw_privs_4 ++ (lw_privs_5)))), lw_okq q
  exact List.forall_mem_append.mpr ⟨lw_r1, List.forall_mem_append.mpr ⟨lw_r2, List.forall_mem_append.mpr ⟨lw_r3, List.forall_mem_append.mpr ⟨lw_r4, lw_r5⟩⟩⟩⟩
def RX0 : String := "VaseCourt$Bench"
def TX0 : u_T := fun k => match k with
  | 0 => ("VaseCourt$Bench", "size", "I", false)
  | 1 => ("VaseCourt$Bench", "kept", "[J", true)
  | 2 => ("VaseCourt$Bench", "back", "[J", true)
  | 3 => ("VaseCourt$Bench", "untouched", "[J", true)
  | 4 => ("VaseCourt$Bench", "periods", "I", true)
  | 5 => ("VaseCourt$Bench", "chronicle", "LVaseCourt$Chronicle;", true)
  | 6 => ("VaseCourt$Bench", "ways", "LVaseCourt$Ways;", true)
  | _ => ("VaseCourt$Bench", "book", "LVaseCourt$LawBook;", true)
def tyX0 : Nat → FieldType := fun k => match k with
  | 0 => .int
  | 1 => .array .long
  | 2 => .array .long
  | 3 => .array .long
  | 4 => .int
  | 5 => .object "VaseCourt$Chronicle"
  | 6 => .object "VaseCourt$Ways"
  | _ => .object "VaseCourt$LawBook"
theorem nmX0 : ∀ a, a < 8 → ∀ b, b < 8 → a ≠ b → (TX0 a).2.1 ≠ (TX0 b).2.1 := by decide +kernel
theorem tyX0_ok : ∀ k, k < 8 → parseFieldDescriptor (TX0 k).2.2.1 = some (tyX0 k) := by decide +kernel
abbrev cX0_init : ByteArray := prog_2_method_1_code
def yX0_init : MethodName := ⟨RX0, "<init>", "(ILVaseCourt$Chronicle;LVaseCourt$Ways;LVaseCourt$LawBook;)V"⟩
abbrev cX0_givenTo : ByteArray := prog_2_method_2_code
def yX0_givenTo : MethodName := ⟨RX0, "givenTo", "(I)J"⟩
abbrev cX0_claimsOf : ByteArray := prog_2_method_3_code
def yX0_claimsOf : MethodName := ⟨RX0, "claimsOf", "(I)J"⟩
abbrev cX0_has : ByteArray := prog_2_method_4_code
def yX0_has : MethodName := ⟨RX0, "has", "(I)Z"⟩
abbrev cX0_keep : ByteArray := prog_2_method_5_code
def yX0_keep : MethodName := ⟨RX0, "keep", "()I"⟩
abbrev cX0_keptFor : ByteArray := prog_2_method_6_code
def yX0_keptFor : MethodName := ⟨RX0, "keptFor", "(II)J"⟩
abbrev cX0_changedLands : ByteArray := prog_2_method_7_code
def yX0_changedLands : MethodName := ⟨RX0, "changedLands", "(I)I"⟩
abbrev cX0_giveBack : ByteArray := prog_2_method_8_code
def yX0_giveBack : MethodName := ⟨RX0, "giveBack", "(I)V"⟩
abbrev cX0_goOn : ByteArray := prog_2_method_9_code
def yX0_goOn : MethodName := ⟨RX0, "goOn", "(III)V"⟩
def RX1 : String := "VaseCourt$Chronicle"
def TX1 : u_T := fun k => match k with
  | 0 => ("VaseCourt$Chronicle", "soilLands", "I", false)
  | 1 => ("VaseCourt$Chronicle", "beginnings", "[J", true)
  | 2 => ("VaseCourt$Chronicle", "ends", "[J", true)
  | 3 => ("VaseCourt$Chronicle", "with", "[J", true)
  | 4 => ("VaseCourt$Chronicle", "periods", "I", true)
  | 5 => ("VaseCourt$Chronicle", "ways", "LVaseCourt$Ways;", true)
  | _ => ("VaseCourt$Chronicle", "file", "LVaseCourt$PaperFile;", true)
def tyX1 : Nat → FieldType := fun k => match k with
  | 0 => .int
  | 1 => .array .long
  | 2 => .array .long
  | 3 => .array .long
  | 4 => .int
  | 5 => .object "VaseCourt$Ways"
  | _ => .object "VaseCourt$PaperFile"
theorem nmX1 : ∀ a, a < 7 → ∀ b, b < 7 → a ≠ b → (TX1 a).2.1 ≠ (TX1 b).2.1 := by decide +kernel
theorem tyX1_ok : ∀ k, k < 7 → parseFieldDescriptor (TX1 k).2.2.1 = some (tyX1 k) := by decide +kernel
abbrev cX1_init : ByteArray := prog_3_method_1_code
def yX1_init : MethodName := ⟨RX1, "<init>", "(ILVaseCourt$Ways;LVaseCourt$PaperFile;)V"⟩
abbrev cX1_recount : ByteArray := prog_3_method_2_code
def yX1_recount : MethodName := ⟨RX1, "recount", "()V"⟩
abbrev cX1_beginningsTo : ByteArray := prog_3_method_3_code
def yX1_beginningsTo : MethodName := ⟨RX1, "beginningsTo", "(II)J"⟩
abbrev cX1_endsFrom : ByteArray := prog_3_method_4_code
def yX1_endsFrom : MethodName := ⟨RX1, "endsFrom", "(II)J"⟩
abbrev cX1_sumBefore : ByteArray := prog_3_method_5_code
def yX1_sumBefore : MethodName := ⟨RX1, "sumBefore", "([JII)J"⟩
abbrev cX1_sumBehind : ByteArray := prog_3_method_6_code
def yX1_sumBehind : MethodName := ⟨RX1, "sumBehind", "([JII)J"⟩
abbrev cX1_total : ByteArray := prog_3_method_7_code
def yX1_total : MethodName := ⟨RX1, "total", "()J"⟩
abbrev cX1_through : ByteArray := prog_3_method_8_code
def yX1_through : MethodName := ⟨RX1, "through", "(I)J"⟩
abbrev cX1_countWith : ByteArray := prog_3_method_9_code
def yX1_countWith : MethodName := ⟨RX1, "countWith", "(II)V"⟩
abbrev cX1_landOf : ByteArray := prog_3_method_10_code
def yX1_landOf : MethodName := ⟨RX1, "landOf", "(II)I"⟩
abbrev cX1_goingTo : ByteArray := prog_3_method_11_code
def yX1_goingTo : MethodName := ⟨RX1, "goingTo", "(III)J"⟩
def RX2 : String := "VaseCourt$Inquiry"
def TX2 : u_T := fun k => match k with
  | 0 => ("VaseCourt$Inquiry", "periods", "I", true)
  | _ => ("VaseCourt$Inquiry", "chronicle", "LVaseCourt$Chronicle;", true)
def tyX2 : Nat → FieldType := fun k => match k with
  | 0 => .int
  | _ => .object "VaseCourt$Chronicle"
theorem nmX2 : ∀ a, a < 2 → ∀ b, b < 2 → a ≠ b → (TX2 a).2.1 ≠ (TX2 b).2.1 := by decide +kernel
theorem tyX2_ok : ∀ k, k < 2 → parseFieldDescriptor (TX2 k).2.2.1 = some (tyX2 k) := by decide +kernel
abbrev cX2_init : ByteArray := prog_4_method_1_code
def yX2_init : MethodName := ⟨RX2, "<init>", "(ILVaseCourt$Chronicle;)V"⟩
abbrev cX2_worstOf : ByteArray := prog_4_method_2_code
def yX2_worstOf : MethodName := ⟨RX2, "worstOf", "(I)J"⟩
abbrev cX2_best : ByteArray := prog_4_method_3_code
def yX2_best : MethodName := ⟨RX2, "best", "()I"⟩
abbrev cX2_worstWithNext : ByteArray := prog_4_method_4_code
def yX2_worstWithNext : MethodName := ⟨RX2, "worstWithNext", "(II)J"⟩
abbrev cX2_bestWithNext : ByteArray := prog_4_method_5_code
def yX2_bestWithNext : MethodName := ⟨RX2, "bestWithNext", "()I"⟩
abbrev cX2_told : ByteArray := prog_4_method_6_code
def yX2_told : MethodName := ⟨RX2, "told", "(I)I"⟩
def RX3 : String := "VaseCourt$LawBook"
def TX3 : u_T := fun k => match k with
  | 0 => ("VaseCourt$LawBook", "size", "I", false)
  | 1 => ("VaseCourt$LawBook", "textCount", "I", false)
  | 2 => ("VaseCourt$LawBook", "texts", "[LVaseCourt$Text;", true)
  | 3 => ("VaseCourt$LawBook", "lands", "[I", true)
  | 4 => ("VaseCourt$LawBook", "firsts", "[I", true)
  | 5 => ("VaseCourt$LawBook", "numbers", "[I", true)
  | 6 => ("VaseCourt$LawBook", "stack", "[I", true)
  | 7 => ("VaseCourt$LawBook", "named", "[I", true)
  | 8 => ("VaseCourt$LawBook", "now", "I", true)
  | 9 => ("VaseCourt$LawBook", "ways", "LVaseCourt$Ways;", true)
  | _ => ("VaseCourt$LawBook", "file", "LVaseCourt$PaperFile;", true)
def tyX3 : Nat → FieldType := fun k => match k with
  | 0 => .int
  | 1 => .int
  | 2 => .array (.object "VaseCourt$Text")
  | 3 => .array .int
  | 4 => .array .int
  | 5 => .array .int
  | 6 => .array .int
  | 7 => .array .int
  | 8 => .int
  | 9 => .object "VaseCourt$Ways"
  | _ => .object "VaseCourt$PaperFile"
theorem nmX3 : ∀ a, a < 11 → ∀ b, b < 11 → a ≠ b → (TX3 a).2.1 ≠ (TX3 b).2.1 := by decide +kernel
theorem tyX3_ok : ∀ k, k < 11 → parseFieldDescriptor (TX3 k).2.2.1 = some (tyX3 k) := by decide +kernel
abbrev cX3_init : ByteArray := prog_5_method_1_code
def yX3_init : MethodName := ⟨RX3, "<init>", "(ILVaseCourt$Ways;LVaseCourt$PaperFile;)V"⟩
abbrev cX3_addText : ByteArray := prog_5_method_2_code
def yX3_addText : MethodName := ⟨RX3, "addText", "([II)I"⟩
abbrev cX3_add : ByteArray := prog_5_method_3_code
def yX3_add : MethodName := ⟨RX3, "add", "(III)I"⟩
abbrev cX3_textFor : ByteArray := prog_5_method_4_code
def yX3_textFor : MethodName := ⟨RX3, "textFor", "(II)I"⟩
abbrev cX3_hold : ByteArray := prog_5_method_5_code
def yX3_hold : MethodName := ⟨RX3, "hold", "(III)I"⟩
abbrev cX3_limit : ByteArray := prog_5_method_6_code
def yX3_limit : MethodName := ⟨RX3, "limit", "(III)I"⟩
abbrev cX3_givesBack : ByteArray := prog_5_method_7_code
def yX3_givesBack : MethodName := ⟨RX3, "givesBack", "(III)Z"⟩
abbrev cX3_look : ByteArray := prog_5_method_8_code
def yX3_look : MethodName := ⟨RX3, "look", "(III)LVaseCourt$Text;"⟩
abbrev cX3_name : ByteArray := prog_5_method_9_code
def yX3_name : MethodName := ⟨RX3, "name", "(II)V"⟩
abbrev cX3_valueOf : ByteArray := prog_5_method_10_code
def yX3_valueOf : MethodName := ⟨RX3, "valueOf", "([III)I"⟩
abbrev cX3_ofOne : ByteArray := prog_5_method_11_code
def yX3_ofOne : MethodName := ⟨RX3, "ofOne", "(II)I"⟩
abbrev cX3_ofTwo : ByteArray := prog_5_method_12_code
def yX3_ofTwo : MethodName := ⟨RX3, "ofTwo", "(III)I"⟩
def RX4 : String := "VaseCourt$PaperFile"
def TX4 : u_T := fun k => match k with
  | 0 => ("VaseCourt$PaperFile", "size", "I", false)
  | 1 => ("VaseCourt$PaperFile", "forged", "I", false)
  | 2 => ("VaseCourt$PaperFile", "standing", "I", false)
  | 3 => ("VaseCourt$PaperFile", "kind", "[I", true)
  | 4 => ("VaseCourt$PaperFile", "a", "[I", true)
  | 5 => ("VaseCourt$PaperFile", "b", "[I", true)
  | 6 => ("VaseCourt$PaperFile", "period", "[I", true)
  | _ => ("VaseCourt$PaperFile", "leans", "[I", true)
def tyX4 : Nat → FieldType := fun k => match k with
  | 0 => .int
  | 1 => .int
  | 2 => .int
  | 3 => .array .int
  | 4 => .array .int
  | 5 => .array .int
  | 6 => .array .int
  | _ => .array .int
theorem nmX4 : ∀ a, a < 8 → ∀ b, b < 8 → a ≠ b → (TX4 a).2.1 ≠ (TX4 b).2.1 := by decide +kernel
theorem tyX4_ok : ∀ k, k < 8 → parseFieldDescriptor (TX4 k).2.2.1 = some (tyX4 k) := by decide +kernel
abbrev cX4_init : ByteArray := prog_6_method_1_code
def yX4_init : MethodName := ⟨RX4, "<init>", "()V"⟩
abbrev cX4_has : ByteArray := prog_6_method_2_code
def yX4_has : MethodName := ⟨RX4, "has", "(I)Z"⟩
abbrev cX4_hasAll : ByteArray := prog_6_method_3_code
def yX4_hasAll : MethodName := ⟨RX4, "hasAll", "(I)Z"⟩
abbrev cX4_add : ByteArray := prog_6_method_4_code
def yX4_add : MethodName := ⟨RX4, "add", "(IIIII)I"⟩
abbrev cX4_markForged : ByteArray := prog_6_method_5_code
def yX4_markForged : MethodName := ⟨RX4, "markForged", "(IZ)V"⟩
abbrev cX4_standingCount : ByteArray := prog_6_method_6_code
def yX4_standingCount : MethodName := ⟨RX4, "standingCount", "()I"⟩
abbrev cX4_fallingWith : ByteArray := prog_6_method_7_code
def yX4_fallingWith : MethodName := ⟨RX4, "fallingWith", "(I)I"⟩
abbrev cX4_standingWithout : ByteArray := prog_6_method_8_code
def yX4_standingWithout : MethodName := ⟨RX4, "standingWithout", "(I)I"⟩
abbrev cX4_allowedLands : ByteArray := prog_6_method_9_code
def yX4_allowedLands : MethodName := ⟨RX4, "allowedLands", "(I)I"⟩
abbrev cX4_landsByPaper : ByteArray := prog_6_method_10_code
def yX4_landsByPaper : MethodName := ⟨RX4, "landsByPaper", "(II)I"⟩
abbrev cX4_landsByKind : ByteArray := prog_6_method_11_code
def yX4_landsByKind : MethodName := ⟨RX4, "landsByKind", "(III)I"⟩
abbrev cX4_isUnder : ByteArray := prog_6_method_12_code
def yX4_isUnder : MethodName := ⟨RX4, "isUnder", "(II)Z"⟩
def RX5 : String := "VaseCourt$Reader"
def TX5 : u_T := fun k => match k with
  | 0 => ("VaseCourt$Reader", "size", "I", false)
  | 1 => ("VaseCourt$Reader", "split", "I", false)
  | 2 => ("VaseCourt$Reader", "tape", "[B", true)
  | 3 => ("VaseCourt$Reader", "code", "[I", true)
  | 4 => ("VaseCourt$Reader", "length", "I", false)
  | 5 => ("VaseCourt$Reader", "token", "I", false)
  | 6 => ("VaseCourt$Reader", "tokenStart", "I", false)
  | 7 => ("VaseCourt$Reader", "tokenEnd", "I", false)
  | _ => ("VaseCourt$Reader", "number", "I", false)
def tyX5 : Nat → FieldType := fun k => match k with
  | 0 => .int
  | 1 => .int
  | 2 => .array .byte
  | 3 => .array .int
  | 4 => .int
  | 5 => .int
  | 6 => .int
  | 7 => .int
  | _ => .int
theorem nmX5 : ∀ a, a < 9 → ∀ b, b < 9 → a ≠ b → (TX5 a).2.1 ≠ (TX5 b).2.1 := by decide +kernel
theorem tyX5_ok : ∀ k, k < 9 → parseFieldDescriptor (TX5 k).2.2.1 = some (tyX5 k) := by decide +kernel
abbrev cX5_init : ByteArray := prog_7_method_1_code
def yX5_init : MethodName := ⟨RX5, "<init>", "()V"⟩
abbrev cX5_take : ByteArray := prog_7_method_2_code
def yX5_take : MethodName := ⟨RX5, "take", "(IJ)I"⟩
abbrev cX5_codeRead : ByteArray := prog_7_method_3_code
def yX5_codeRead : MethodName := ⟨RX5, "codeRead", "()[I"⟩
abbrev cX5_readText : ByteArray := prog_7_method_4_code
def yX5_readText : MethodName := ⟨RX5, "readText", "()I"⟩
abbrev cX5_readPart : ByteArray := prog_7_method_5_code
def yX5_readPart : MethodName := ⟨RX5, "readPart", "(I)Z"⟩
abbrev cX5_readOr : ByteArray := prog_7_method_6_code
def yX5_readOr : MethodName := ⟨RX5, "readOr", "(I)Z"⟩
abbrev cX5_readAnd : ByteArray := prog_7_method_7_code
def yX5_readAnd : MethodName := ⟨RX5, "readAnd", "(I)Z"⟩
abbrev cX5_readNot : ByteArray := prog_7_method_8_code
def yX5_readNot : MethodName := ⟨RX5, "readNot", "(I)Z"⟩
abbrev cX5_readSum : ByteArray := prog_7_method_9_code
def yX5_readSum : MethodName := ⟨RX5, "readSum", "(I)Z"⟩
abbrev cX5_readTerm : ByteArray := prog_7_method_10_code
def yX5_readTerm : MethodName := ⟨RX5, "readTerm", "(I)Z"⟩
abbrev cX5_readOne : ByteArray := prog_7_method_11_code
def yX5_readOne : MethodName := ⟨RX5, "readOne", "(I)Z"⟩
abbrev cX5_pass : ByteArray := prog_7_method_12_code
def yX5_pass : MethodName := ⟨RX5, "pass", "(I)Z"⟩
abbrev cX5_write : ByteArray := prog_7_method_13_code
def yX5_write : MethodName := ⟨RX5, "write", "(I)Z"⟩
abbrev cX5_advance : ByteArray := prog_7_method_14_code
def yX5_advance : MethodName := ⟨RX5, "advance", "()V"⟩
abbrev cX5_readWord : ByteArray := prog_7_method_15_code
def yX5_readWord : MethodName := ⟨RX5, "readWord", "()I"⟩
abbrev cX5_spells : ByteArray := prog_7_method_16_code
def yX5_spells : MethodName := ⟨RX5, "spells", "(Ljava/lang/String;)Z"⟩
abbrev cX5_readNumber : ByteArray := prog_7_method_17_code
def yX5_readNumber : MethodName := ⟨RX5, "readNumber", "()I"⟩
abbrev cX5_readSign : ByteArray := prog_7_method_18_code
def yX5_readSign : MethodName := ⟨RX5, "readSign", "()I"⟩
abbrev cX5_isLetter : ByteArray := prog_7_method_19_code
def yX5_isLetter : MethodName := ⟨RX5, "isLetter", "(I)Z"⟩
abbrev cX5_isFigure : ByteArray := prog_7_method_20_code
def yX5_isFigure : MethodName := ⟨RX5, "isFigure", "(I)Z"⟩
def RX6 : String := "VaseCourt$Records"
def TX6 : u_T := fun k => match k with
  | 0 => ("VaseCourt$Records", "size", "I", false)
  | 1 => ("VaseCourt$Records", "enough", "I", false)
  | 2 => ("VaseCourt$Records", "marks", "[I", true)
  | _ => ("VaseCourt$Records", "known", "[I", true)
def tyX6 : Nat → FieldType := fun k => match k with
  | 0 => .int
  | 1 => .int
  | 2 => .array .int
  | _ => .array .int
theorem nmX6 : ∀ a, a < 4 → ∀ b, b < 4 → a ≠ b → (TX6 a).2.1 ≠ (TX6 b).2.1 := by decide +kernel
theorem tyX6_ok : ∀ k, k < 4 → parseFieldDescriptor (TX6 k).2.2.1 = some (tyX6 k) := by decide +kernel
abbrev cX6_init : ByteArray := prog_8_method_1_code
def yX6_init : MethodName := ⟨RX6, "<init>", "()V"⟩
abbrev cX6_isMarks : ByteArray := prog_8_method_2_code
def yX6_isMarks : MethodName := ⟨RX6, "isMarks", "(I)Z"⟩
abbrev cX6_has : ByteArray := prog_8_method_3_code
def yX6_has : MethodName := ⟨RX6, "has", "(I)Z"⟩
abbrev cX6_add : ByteArray := prog_8_method_4_code
def yX6_add : MethodName := ⟨RX6, "add", "(II)I"⟩
abbrev cX6_atOdds : ByteArray := prog_8_method_5_code
def yX6_atOdds : MethodName := ⟨RX6, "atOdds", "(II)Z"⟩
abbrev cX6_match : ByteArray := prog_8_method_6_code
def yX6_match : MethodName := ⟨RX6, "match", "(II)Z"⟩
abbrev cX6_thingOf : ByteArray := prog_8_method_7_code
def yX6_thingOf : MethodName := ⟨RX6, "thingOf", "(I)I"⟩
abbrev cX6_matchesOneOf : ByteArray := prog_8_method_8_code
def yX6_matchesOneOf : MethodName := ⟨RX6, "matchesOneOf", "(II)Z"⟩
abbrev cX6_countThings : ByteArray := prog_8_method_9_code
def yX6_countThings : MethodName := ⟨RX6, "countThings", "(Z)I"⟩
abbrev cX6_tellsCopy : ByteArray := prog_8_method_10_code
def yX6_tellsCopy : MethodName := ⟨RX6, "tellsCopy", "(I)Z"⟩
def RX7 : String := "VaseCourt$Sheets"
def TX7 : u_T := fun k => match k with
  | 0 => ("VaseCourt$Sheets", "sort", "[I", true)
  | 1 => ("VaseCourt$Sheets", "sizes", "[I", true)
  | _ => ("VaseCourt$Sheets", "items", "[I", true)
def tyX7 : Nat → FieldType := fun k => match k with
  | 0 => .array .int
  | 1 => .array .int
  | _ => .array .int
theorem nmX7 : ∀ a, a < 3 → ∀ b, b < 3 → a ≠ b → (TX7 a).2.1 ≠ (TX7 b).2.1 := by decide +kernel
theorem tyX7_ok : ∀ k, k < 3 → parseFieldDescriptor (TX7 k).2.2.1 = some (tyX7 k) := by decide +kernel
abbrev cX7_init : ByteArray := prog_9_method_1_code
def yX7_init : MethodName := ⟨RX7, "<init>", "()V"⟩
abbrev cX7_isSheet : ByteArray := prog_9_method_2_code
def yX7_isSheet : MethodName := ⟨RX7, "isSheet", "(I)Z"⟩
abbrev cX7_isSort : ByteArray := prog_9_method_3_code
def yX7_isSort : MethodName := ⟨RX7, "isSort", "(I)Z"⟩
abbrev cX7_isMissing : ByteArray := prog_9_method_4_code
def yX7_isMissing : MethodName := ⟨RX7, "isMissing", "(I)Z"⟩
abbrev cX7_lose : ByteArray := prog_9_method_5_code
def yX7_lose : MethodName := ⟨RX7, "lose", "(I)I"⟩
abbrev cX7_lay : ByteArray := prog_9_method_6_code
def yX7_lay : MethodName := ⟨RX7, "lay", "(III)I"⟩
abbrev cX7_holds : ByteArray := prog_9_method_7_code
def yX7_holds : MethodName := ⟨RX7, "holds", "(III)Z"⟩
abbrev cX7_write : ByteArray := prog_9_method_8_code
def yX7_write : MethodName := ⟨RX7, "write", "(III)I"⟩
abbrev cX7_read : ByteArray := prog_9_method_9_code
def yX7_read : MethodName := ⟨RX7, "read", "(II)I"⟩
abbrev cX7_move : ByteArray := prog_9_method_10_code
def yX7_move : MethodName := ⟨RX7, "move", "(IIIII)I"⟩
abbrev cX7_cut : ByteArray := prog_9_method_11_code
def yX7_cut : MethodName := ⟨RX7, "cut", "(II)I"⟩
def RX8 : String := "VaseCourt$Sherds"
def TX8 : u_T := fun k => match k with
  | 0 => ("VaseCourt$Sherds", "size", "I", false)
  | 1 => ("VaseCourt$Sherds", "slack", "I", false)
  | 2 => ("VaseCourt$Sherds", "left", "[I", true)
  | 3 => ("VaseCourt$Sherds", "right", "[I", true)
  | 4 => ("VaseCourt$Sherds", "follow", "[I", true)
  | 5 => ("VaseCourt$Sherds", "starts", "[I", true)
  | _ => ("VaseCourt$Sherds", "leastRow", "I", false)
def tyX8 : Nat → FieldType := fun k => match k with
  | 0 => .int
  | 1 => .int
  | 2 => .array .int
  | 3 => .array .int
  | 4 => .array .int
  | 5 => .array .int
  | _ => .int
theorem nmX8 : ∀ a, a < 7 → ∀ b, b < 7 → a ≠ b → (TX8 a).2.1 ≠ (TX8 b).2.1 := by decide +kernel
theorem tyX8_ok : ∀ k, k < 7 → parseFieldDescriptor (TX8 k).2.2.1 = some (tyX8 k) := by decide +kernel
abbrev cX8_init : ByteArray := prog_10_method_1_code
def yX8_init : MethodName := ⟨RX8, "<init>", "()V"⟩
abbrev cX8_isEdge : ByteArray := prog_10_method_2_code
def yX8_isEdge : MethodName := ⟨RX8, "isEdge", "(I)Z"⟩
abbrev cX8_has : ByteArray := prog_10_method_3_code
def yX8_has : MethodName := ⟨RX8, "has", "(I)Z"⟩
abbrev cX8_add : ByteArray := prog_10_method_4_code
def yX8_add : MethodName := ⟨RX8, "add", "(II)I"⟩
abbrev cX8_fits : ByteArray := prog_10_method_5_code
def yX8_fits : MethodName := ⟨RX8, "fits", "(II)Z"⟩
abbrev cX8_inRow : ByteArray := prog_10_method_6_code
def yX8_inRow : MethodName := ⟨RX8, "inRow", "(II)I"⟩
abbrev cX8_findRow : ByteArray := prog_10_method_7_code
def yX8_findRow : MethodName := ⟨RX8, "findRow", "()I"⟩
abbrev cX8_findFollowers : ByteArray := prog_10_method_8_code
def yX8_findFollowers : MethodName := ⟨RX8, "findFollowers", "()V"⟩
abbrev cX8_findStarts : ByteArray := prog_10_method_9_code
def yX8_findStarts : MethodName := ⟨RX8, "findStarts", "()I"⟩
abbrev cX8_leastOf : ByteArray := prog_10_method_10_code
def yX8_leastOf : MethodName := ⟨RX8, "leastOf", "(I)I"⟩
def RX9 : String := "VaseCourt$Text"
def TX9 : u_T := fun k => match k with
  | 0 => ("VaseCourt$Text", "code", "[I", true)
  | _ => ("VaseCourt$Text", "split", "I", true)
def tyX9 : Nat → FieldType := fun k => match k with
  | 0 => .array .int
  | _ => .int
theorem nmX9 : ∀ a, a < 2 → ∀ b, b < 2 → a ≠ b → (TX9 a).2.1 ≠ (TX9 b).2.1 := by decide +kernel
theorem tyX9_ok : ∀ k, k < 2 → parseFieldDescriptor (TX9 k).2.2.1 = some (tyX9 k) := by decide +kernel
abbrev cX9_init : ByteArray := prog_11_method_1_code
def yX9_init : MethodName := ⟨RX9, "<init>", "([II)V"⟩
def RX10 : String := "VaseCourt$Ways"
def TX10 : u_T := fun k => match k with
  | 0 => ("VaseCourt$Ways", "size", "I", false)
  | _ => ("VaseCourt$Ways", "open", "[I", true)
def tyX10 : Nat → FieldType := fun k => match k with
  | 0 => .int
  | _ => .array .int
theorem nmX10 : ∀ a, a < 2 → ∀ b, b < 2 → a ≠ b → (TX10 a).2.1 ≠ (TX10 b).2.1 := by decide +kernel
theorem tyX10_ok : ∀ k, k < 2 → parseFieldDescriptor (TX10 k).2.2.1 = some (tyX10 k) := by decide +kernel
abbrev cX10_init : ByteArray := prog_12_method_1_code
def yX10_init : MethodName := ⟨RX10, "<init>", "()V"⟩
abbrev cX10_add : ByteArray := prog_12_method_2_code
def yX10_add : MethodName := ⟨RX10, "add", "(IIII)I"⟩
abbrev cX10_openFor : ByteArray := prog_12_method_3_code
def yX10_openFor : MethodName := ⟨RX10, "openFor", "(III)I"⟩
abbrev cX10_lead : ByteArray := prog_12_method_4_code
def yX10_lead : MethodName := ⟨RX10, "lead", "(III)Z"⟩
def RX11 : String := "VaseCourt"
def TX11 : u_T := fun k => match k with
  | 0 => ("VaseCourt", "periods", "I", true)
  | 1 => ("VaseCourt", "ways", "LVaseCourt$Ways;", true)
  | 2 => ("VaseCourt", "file", "LVaseCourt$PaperFile;", true)
  | 3 => ("VaseCourt", "chronicle", "LVaseCourt$Chronicle;", true)
  | 4 => ("VaseCourt", "reader", "LVaseCourt$Reader;", true)
  | 5 => ("VaseCourt", "book", "LVaseCourt$LawBook;", true)
  | 6 => ("VaseCourt", "bench", "LVaseCourt$Bench;", true)
  | 7 => ("VaseCourt", "inquiry", "LVaseCourt$Inquiry;", true)
  | 8 => ("VaseCourt", "sherds", "LVaseCourt$Sherds;", true)
  | 9 => ("VaseCourt", "records", "LVaseCourt$Records;", true)
  | _ => ("VaseCourt", "sheets", "LVaseCourt$Sheets;", true)
def tyX11 : Nat → FieldType := fun k => match k with
  | 0 => .int
  | 1 => .object "VaseCourt$Ways"
  | 2 => .object "VaseCourt$PaperFile"
  | 3 => .object "VaseCourt$Chronicle"
  | 4 => .object "VaseCourt$Reader"
  | 5 => .object "VaseCourt$LawBook"
  | 6 => .object "VaseCourt$Bench"
  | 7 => .object "VaseCourt$Inquiry"
  | 8 => .object "VaseCourt$Sherds"
  | 9 => .object "VaseCourt$Records"
  | _ => .object "VaseCourt$Sheets"
theorem nmX11 : ∀ a, a < 11 → ∀ b, b < 11 → a ≠ b → (TX11 a).2.1 ≠ (TX11 b).2.1 := by decide +kernel
theorem tyX11_ok : ∀ k, k < 11 → parseFieldDescriptor (TX11 k).2.2.1 = some (tyX11 k) := by decide +kernel
abbrev cX11_init : ByteArray := prog_1_method_1_code
def yX11_init : MethodName := ⟨RX11, "<init>", "(I)V"⟩
abbrev cX11_way : ByteArray := prog_1_method_2_code
def yX11_way : MethodName := ⟨RX11, "way", "(IIII)I"⟩
abbrev cX11_soil : ByteArray := prog_1_method_3_code
def yX11_soil : MethodName := ⟨RX11, "soil", "(I)I"⟩
abbrev cX11_paper : ByteArray := prog_1_method_4_code
def yX11_paper : MethodName := ⟨RX11, "paper", "(IIIII)I"⟩
abbrev cX11_paperTold : ByteArray := prog_1_method_5_code
def yX11_paperTold : MethodName := ⟨RX11, "paperTold", "(II)I"⟩
abbrev cX11_allows : ByteArray := prog_1_method_6_code
def yX11_allows : MethodName := ⟨RX11, "allows", "(III)I"⟩
abbrev cX11_forge : ByteArray := prog_1_method_7_code
def yX11_forge : MethodName := ⟨RX11, "forge", "(II)I"⟩
abbrev cX11_fall : ByteArray := prog_1_method_8_code
def yX11_fall : MethodName := ⟨RX11, "fall", "(I)I"⟩
abbrev cX11_histories : ByteArray := prog_1_method_9_code
def yX11_histories : MethodName := ⟨RX11, "histories", "()J"⟩
abbrev cX11_at : ByteArray := prog_1_method_10_code
def yX11_at : MethodName := ⟨RX11, "at", "(II)J"⟩
abbrev cX11_both : ByteArray := prog_1_method_11_code
def yX11_both : MethodName := ⟨RX11, "both", "(IIII)J"⟩
abbrev cX11_history : ByteArray := prog_1_method_12_code
def yX11_history : MethodName := ⟨RX11, "history", "(II)I"⟩
abbrev cX11_feed : ByteArray := prog_1_method_13_code
def yX11_feed : MethodName := ⟨RX11, "feed", "(IJ)I"⟩
abbrev cX11_text : ByteArray := prog_1_method_14_code
def yX11_text : MethodName := ⟨RX11, "text", "()I"⟩
abbrev cX11_law : ByteArray := prog_1_method_15_code
def yX11_law : MethodName := ⟨RX11, "law", "(III)I"⟩
abbrev cX11_lawOf : ByteArray := prog_1_method_16_code
def yX11_lawOf : MethodName := ⟨RX11, "lawOf", "(II)I"⟩
abbrev cX11_says : ByteArray := prog_1_method_17_code
def yX11_says : MethodName := ⟨RX11, "says", "(IIII)J"⟩
abbrev cX11_given : ByteArray := prog_1_method_18_code
def yX11_given : MethodName := ⟨RX11, "given", "(I)J"⟩
abbrev cX11_claim : ByteArray := prog_1_method_19_code
def yX11_claim : MethodName := ⟨RX11, "claim", "(I)J"⟩
abbrev cX11_judge : ByteArray := prog_1_method_20_code
def yX11_judge : MethodName := ⟨RX11, "judge", "()I"⟩
abbrev cX11_judged : ByteArray := prog_1_method_21_code
def yX11_judged : MethodName := ⟨RX11, "judged", "(II)J"⟩
abbrev cX11_changed : ByteArray := prog_1_method_22_code
def yX11_changed : MethodName := ⟨RX11, "changed", "(I)I"⟩
abbrev cX11_worst : ByteArray := prog_1_method_23_code
def yX11_worst : MethodName := ⟨RX11, "worst", "(II)J"⟩
abbrev cX11_question : ByteArray := prog_1_method_24_code
def yX11_question : MethodName := ⟨RX11, "question", "()I"⟩
abbrev cX11_worstOfTwo : ByteArray := prog_1_method_25_code
def yX11_worstOfTwo : MethodName := ⟨RX11, "worstOfTwo", "(II)J"⟩
abbrev cX11_firstOfTwo : ByteArray := prog_1_method_26_code
def yX11_firstOfTwo : MethodName := ⟨RX11, "firstOfTwo", "()I"⟩
abbrev cX11_sherd : ByteArray := prog_1_method_27_code
def yX11_sherd : MethodName := ⟨RX11, "sherd", "(II)I"⟩
abbrev cX11_set : ByteArray := prog_1_method_28_code
def yX11_set : MethodName := ⟨RX11, "set", "(II)I"⟩
abbrev cX11_joined : ByteArray := prog_1_method_29_code
def yX11_joined : MethodName := ⟨RX11, "joined", "(II)I"⟩
abbrev cX11_row : ByteArray := prog_1_method_30_code
def yX11_row : MethodName := ⟨RX11, "row", "(I)I"⟩
abbrev cX11_record : ByteArray := prog_1_method_31_code
def yX11_record : MethodName := ⟨RX11, "record", "(II)I"⟩
abbrev cX11_same : ByteArray := prog_1_method_32_code
def yX11_same : MethodName := ⟨RX11, "same", "(III)I"⟩
abbrev cX11_things : ByteArray := prog_1_method_33_code
def yX11_things : MethodName := ⟨RX11, "things", "(I)I"⟩
abbrev cX11_count : ByteArray := prog_1_method_34_code
def yX11_count : MethodName := ⟨RX11, "count", "(I)I"⟩
abbrev cX11_sheet : ByteArray := prog_1_method_35_code
def yX11_sheet : MethodName := ⟨RX11, "sheet", "(III)I"⟩
abbrev cX11_cell : ByteArray := prog_1_method_36_code
def yX11_cell : MethodName := ⟨RX11, "cell", "(III)I"⟩
abbrev cX11_copy : ByteArray := prog_1_method_37_code
def yX11_copy : MethodName := ⟨RX11, "copy", "(IIIII)I"⟩
abbrev cX11_papers : ByteArray := prog_1_method_38_code
def yX11_papers : MethodName := ⟨RX11, "papers", "(IIII)I"⟩
abbrev cX11_taken : ByteArray := prog_1_method_39_code
def yX11_taken : MethodName := ⟨RX11, "taken", "(II)I"⟩
abbrev cX11_giveAll : ByteArray := prog_1_method_40_code
def yX11_giveAll : MethodName := ⟨RX11, "giveAll", "()V"⟩
abbrev cX11_paperFrom : ByteArray := prog_1_method_41_code
def yX11_paperFrom : MethodName := ⟨RX11, "paperFrom", "(II)I"⟩
abbrev cX11_isPeriod : ByteArray := prog_1_method_42_code
def yX11_isPeriod : MethodName := ⟨RX11, "isPeriod", "(I)Z"⟩
abbrev cX11_isMovePeriod : ByteArray := prog_1_method_43_code
def yX11_isMovePeriod : MethodName := ⟨RX11, "isMovePeriod", "(I)Z"⟩
abbrev cX11_isPlace : ByteArray := prog_1_method_44_code
def yX11_isPlace : MethodName := ⟨RX11, "isPlace", "(II)Z"⟩
abbrev cX11_isLand : ByteArray := prog_1_method_45_code
def yX11_isLand : MethodName := ⟨RX11, "isLand", "(I)Z"⟩
abbrev cX11_place : ByteArray := prog_1_method_46_code
def yX11_place : MethodName := ⟨RX11, "place", "(II)I"⟩
abbrev cX11_isIn : ByteArray := prog_1_method_47_code
def yX11_isIn : MethodName := ⟨RX11, "isIn", "(II)Z"⟩
def RX12 : String := "VaseCourtModel"
def TX12 : u_T := fun k => match k with
  | 0 => ("VaseCourtModel", "thrown", "I", false)
  | 1 => ("VaseCourtModel", "t", "I", true)
  | 2 => ("VaseCourtModel", "soilIs", "I", false)
  | 3 => ("VaseCourtModel", "ways", "I", false)
  | 4 => ("VaseCourtModel", "wayA", "[I", true)
  | 5 => ("VaseCourtModel", "wayB", "[I", true)
  | 6 => ("VaseCourtModel", "wayFrom", "[I", true)
  | 7 => ("VaseCourtModel", "wayTo", "[I", true)
  | 8 => ("VaseCourtModel", "papers", "I", false)
  | 9 => ("VaseCourtModel", "kind", "[I", true)
  | 10 => ("VaseCourtModel", "landA", "[I", true)
  | 11 => ("VaseCourtModel", "landB", "[I", true)
  | 12 => ("VaseCourtModel", "period", "[I", true)
  | 13 => ("VaseCourtModel", "leansOn", "[I", true)
  | 14 => ("VaseCourtModel", "forged", "[Z", true)
  | 15 => ("VaseCourtModel", "mayBe", "[Z", true)
  | 16 => ("VaseCourtModel", "goes", "[Z", true)
  | 17 => ("VaseCourtModel", "ahead", "[J", true)
  | 18 => ("VaseCourtModel", "behind", "[J", true)
  | 19 => ("VaseCourtModel", "steps", "[J", true)
  | 20 => ("VaseCourtModel", "pairs", "[J", true)
  | 21 => ("VaseCourtModel", "texts", "[I", true)
  | 22 => ("VaseCourtModel", "textSize", "[I", true)
  | 23 => ("VaseCourtModel", "textCount", "I", false)
  | 24 => ("VaseCourtModel", "tape", "[I", true)
  | 25 => ("VaseCourtModel", "taped", "I", false)
  | 26 => ("VaseCourtModel", "begin", "I", false)
  | 27 => ("VaseCourtModel", "size", "I", false)
  | 28 => ("VaseCourtModel", "token", "I", false)
  | 29 => ("VaseCourtModel", "tokenAt", "I", false)
  | 30 => ("VaseCourtModel", "tokenWorth", "J", false)
  | 31 => ("VaseCourtModel", "here", "I", false)
  | 32 => ("VaseCourtModel", "open", "I", false)
  | 33 => ("VaseCourtModel", "bad", "Z", false)
  | 34 => ("VaseCourtModel", "fault", "I", false)
  | 35 => ("VaseCourtModel", "linkA", "I", false)
  | 36 => ("VaseCourtModel", "linkB", "I", false)
  | 37 => ("VaseCourtModel", "linkP", "I", false)
  | 38 => ("VaseCourtModel", "laws", "I", false)
  | 39 => ("VaseCourtModel", "lawLand", "[I", true)
  | 40 => ("VaseCourtModel", "lawFrom", "[I", true)
  | 41 => ("VaseCourtModel", "lawText", "[I", true)
  | 42 => ("VaseCourtModel", "wrong", "[Z", true)
  | 43 => ("VaseCourtModel", "clean", "[J", true)
  | 44 => ("VaseCourtModel", "gives", "[J", true)
  | 45 => ("VaseCourtModel", "judgements", "I", false)
  | 46 => ("VaseCourtModel", "judgedTo", "[J", true)
  | 47 => ("VaseCourtModel", "sherds", "I", false)
  | 48 => ("VaseCourtModel", "leftEdge", "[I", true)
  | 49 => ("VaseCourtModel", "rightEdge", "[I", true)
  | 50 => ("VaseCourtModel", "slack", "I", false)
  | 51 => ("VaseCourtModel", "enough", "I", false)
  | 52 => ("VaseCourtModel", "comes", "[I", true)
  | 53 => ("VaseCourtModel", "records", "I", false)
  | 54 => ("VaseCourtModel", "marksOf", "[I", true)
  | 55 => ("VaseCourtModel", "knownOf", "[I", true)
  | 56 => ("VaseCourtModel", "thing", "[I", true)
  | 57 => ("VaseCourtModel", "isThere", "[Z", true)
  | 58 => ("VaseCourtModel", "sorts", "[I", true)
  | 59 => ("VaseCourtModel", "sheetSize", "[I", true)
  | _ => ("VaseCourtModel", "items", "[I", true)
def tyX12 : Nat → FieldType := fun k => match k with
  | 0 => .int
  | 1 => .int
  | 2 => .int
  | 3 => .int
  | 4 => .array .int
  | 5 => .array .int
  | 6 => .array .int
  | 7 => .array .int
  | 8 => .int
  | 9 => .array .int
  | 10 => .array .int
  | 11 => .array .int
  | 12 => .array .int
  | 13 => .array .int
  | 14 => .array .boolean
  | 15 => .array .boolean
  | 16 => .array .boolean
  | 17 => .array .long
  | 18 => .array .long
  | 19 => .array .long
  | 20 => .array .long
  | 21 => .array .int
  | 22 => .array .int
  | 23 => .int
  | 24 => .array .int
  | 25 => .int
  | 26 => .int
  | 27 => .int
  | 28 => .int
  | 29 => .int
  | 30 => .long
  | 31 => .int
  | 32 => .int
  | 33 => .boolean
  | 34 => .int
  | 35 => .int
  | 36 => .int
  | 37 => .int
  | 38 => .int
  | 39 => .array .int
  | 40 => .array .int
  | 41 => .array .int
  | 42 => .array .boolean
  | 43 => .array .long
  | 44 => .array .long
  | 45 => .int
  | 46 => .array .long
  | 47 => .int
  | 48 => .array .int
  | 49 => .array .int
  | 50 => .int
  | 51 => .int
  | 52 => .array .int
  | 53 => .int
  | 54 => .array .int
  | 55 => .array .int
  | 56 => .array .int
  | 57 => .array .boolean
  | 58 => .array .int
  | 59 => .array .int
  | _ => .array .int
theorem nmX12 : ∀ a, a < 61 → ∀ b, b < 61 → a ≠ b → (TX12 a).2.1 ≠ (TX12 b).2.1 := by decide +kernel
theorem tyX12_ok : ∀ k, k < 61 → parseFieldDescriptor (TX12 k).2.2.1 = some (tyX12 k) := by decide +kernel
abbrev cX12_in : ByteArray := prog_14_method_2_code
def yX12_in : MethodName := ⟨RX12, "in", "(III)Z"⟩
abbrev cX12_init : ByteArray := prog_14_method_3_code
def yX12_init : MethodName := ⟨RX12, "<init>", "(I)V"⟩
abbrev cX12_spell : ByteArray := prog_14_method_4_code
def yX12_spell : MethodName := ⟨RX12, "spell", "(IJ)V"⟩
abbrev cX12_isLand : ByteArray := prog_14_method_5_code
def yX12_isLand : MethodName := ⟨RX12, "isLand", "(I)Z"⟩
abbrev cX12_isPeriod : ByteArray := prog_14_method_6_code
def yX12_isPeriod : MethodName := ⟨RX12, "isPeriod", "(I)Z"⟩
abbrev cX12_isPlace : ByteArray := prog_14_method_7_code
def yX12_isPlace : MethodName := ⟨RX12, "isPlace", "(II)Z"⟩
abbrev cX12_way : ByteArray := prog_14_method_8_code
def yX12_way : MethodName := ⟨RX12, "way", "(IIII)I"⟩
abbrev cX12_soil : ByteArray := prog_14_method_9_code
def yX12_soil : MethodName := ⟨RX12, "soil", "(I)I"⟩
abbrev cX12_openWays : ByteArray := prog_14_method_10_code
def yX12_openWays : MethodName := ⟨RX12, "openWays", "(III)I"⟩
abbrev cX12_isPaper : ByteArray := prog_14_method_11_code
def yX12_isPaper : MethodName := ⟨RX12, "isPaper", "(I)Z"⟩
abbrev cX12_paper : ByteArray := prog_14_method_12_code
def yX12_paper : MethodName := ⟨RX12, "paper", "(IIIII)I"⟩
abbrev cX12_standing : ByteArray := prog_14_method_13_code
def yX12_standing : MethodName := ⟨RX12, "standing", "(I)I"⟩
abbrev cX12_paperTold : ByteArray := prog_14_method_14_code
def yX12_paperTold : MethodName := ⟨RX12, "paperTold", "(II)I"⟩
abbrev cX12_lets : ByteArray := prog_14_method_15_code
def yX12_lets : MethodName := ⟨RX12, "lets", "(III)Z"⟩
abbrev cX12_allows : ByteArray := prog_14_method_16_code
def yX12_allows : MethodName := ⟨RX12, "allows", "(III)I"⟩
abbrev cX12_bitsOf : ByteArray := prog_14_method_17_code
def yX12_bitsOf : MethodName := ⟨RX12, "bitsOf", "(I)I"⟩
abbrev cX12_forge : ByteArray := prog_14_method_18_code
def yX12_forge : MethodName := ⟨RX12, "forge", "(II)I"⟩
abbrev cX12_fall : ByteArray := prog_14_method_19_code
def yX12_fall : MethodName := ⟨RX12, "fall", "(I)I"⟩
abbrev cX12_layOut : ByteArray := prog_14_method_20_code
def yX12_layOut : MethodName := ⟨RX12, "layOut", "()V"⟩
abbrev cX12_counted : ByteArray := prog_14_method_21_code
def yX12_counted : MethodName := ⟨RX12, "counted", "()J"⟩
abbrev cX12_all : ByteArray := prog_14_method_22_code
def yX12_all : MethodName := ⟨RX12, "all", "()J"⟩
abbrev cX12_through : ByteArray := prog_14_method_23_code
def yX12_through : MethodName := ⟨RX12, "through", "(II)J"⟩
abbrev cX12_histories : ByteArray := prog_14_method_24_code
def yX12_histories : MethodName := ⟨RX12, "histories", "()J"⟩
abbrev cX12_at : ByteArray := prog_14_method_25_code
def yX12_at : MethodName := ⟨RX12, "at", "(II)J"⟩
abbrev cX12_spread : ByteArray := prog_14_method_26_code
def yX12_spread : MethodName := ⟨RX12, "spread", "(II)V"⟩
abbrev cX12_pairUp : ByteArray := prog_14_method_27_code
def yX12_pairUp : MethodName := ⟨RX12, "pairUp", "()V"⟩
abbrev cX12_both : ByteArray := prog_14_method_28_code
def yX12_both : MethodName := ⟨RX12, "both", "(IIII)J"⟩
abbrev cX12_history : ByteArray := prog_14_method_29_code
def yX12_history : MethodName := ⟨RX12, "history", "(II)I"⟩
abbrev cX12_feed : ByteArray := prog_14_method_30_code
def yX12_feed : MethodName := ⟨RX12, "feed", "(IJ)I"⟩
abbrev cX12_byteAt : ByteArray := prog_14_method_31_code
def yX12_byteAt : MethodName := ⟨RX12, "byteAt", "(I)I"⟩
abbrev cX12_next : ByteArray := prog_14_method_32_code
def yX12_next : MethodName := ⟨RX12, "next", "()V"⟩
abbrev cX12_fail : ByteArray := prog_14_method_33_code
def yX12_fail : MethodName := ⟨RX12, "fail", "()V"⟩
abbrev cX12_isWord : ByteArray := prog_14_method_34_code
def yX12_isWord : MethodName := ⟨RX12, "isWord", "(J)Z"⟩
abbrev cX12_isSign : ByteArray := prog_14_method_35_code
def yX12_isSign : MethodName := ⟨RX12, "isSign", "(I)Z"⟩
abbrev cX12_opens : ByteArray := prog_14_method_36_code
def yX12_opens : MethodName := ⟨RX12, "opens", "()Z"⟩
abbrev cX12_name : ByteArray := prog_14_method_37_code
def yX12_name : MethodName := ⟨RX12, "name", "()I"⟩
abbrev cX12_one : ByteArray := prog_14_method_38_code
def yX12_one : MethodName := ⟨RX12, "one", "()I"⟩
abbrev cX12_term : ByteArray := prog_14_method_39_code
def yX12_term : MethodName := ⟨RX12, "term", "()I"⟩
abbrev cX12_added : ByteArray := prog_14_method_40_code
def yX12_added : MethodName := ⟨RX12, "added", "()I"⟩
abbrev cX12_not : ByteArray := prog_14_method_41_code
def yX12_not : MethodName := ⟨RX12, "not", "()I"⟩
abbrev cX12_both_ : ByteArray := prog_14_method_42_code
def yX12_both_ : MethodName := ⟨RX12, "both", "()I"⟩
abbrev cX12_either : ByteArray := prog_14_method_43_code
def yX12_either : MethodName := ⟨RX12, "either", "()I"⟩
abbrev cX12_part : ByteArray := prog_14_method_44_code
def yX12_part : MethodName := ⟨RX12, "part", "(J)I"⟩
abbrev cX12_read : ByteArray := prog_14_method_45_code
def yX12_read : MethodName := ⟨RX12, "read", "(IIIII)I"⟩
abbrev cX12_text : ByteArray := prog_14_method_46_code
def yX12_text : MethodName := ⟨RX12, "text", "()I"⟩
abbrev cX12_law : ByteArray := prog_14_method_47_code
def yX12_law : MethodName := ⟨RX12, "law", "(III)I"⟩
abbrev cX12_theLaw : ByteArray := prog_14_method_48_code
def yX12_theLaw : MethodName := ⟨RX12, "theLaw", "(II)I"⟩
abbrev cX12_lawOf : ByteArray := prog_14_method_49_code
def yX12_lawOf : MethodName := ⟨RX12, "lawOf", "(II)I"⟩
abbrev cX12_says : ByteArray := prog_14_method_50_code
def yX12_says : MethodName := ⟨RX12, "says", "(IIII)J"⟩
abbrev cX12_judgeSteps : ByteArray := prog_14_method_51_code
def yX12_judgeSteps : MethodName := ⟨RX12, "judgeSteps", "()V"⟩
abbrev cX12_give : ByteArray := prog_14_method_52_code
def yX12_give : MethodName := ⟨RX12, "give", "()V"⟩
abbrev cX12_given : ByteArray := prog_14_method_53_code
def yX12_given : MethodName := ⟨RX12, "given", "(I)J"⟩
abbrev cX12_claim : ByteArray := prog_14_method_54_code
def yX12_claim : MethodName := ⟨RX12, "claim", "(I)J"⟩
abbrev cX12_judge : ByteArray := prog_14_method_55_code
def yX12_judge : MethodName := ⟨RX12, "judge", "()I"⟩
abbrev cX12_judged : ByteArray := prog_14_method_56_code
def yX12_judged : MethodName := ⟨RX12, "judged", "(II)J"⟩
abbrev cX12_changed : ByteArray := prog_14_method_57_code
def yX12_changed : MethodName := ⟨RX12, "changed", "(I)I"⟩
abbrev cX12_greater : ByteArray := prog_14_method_58_code
def yX12_greater : MethodName := ⟨RX12, "greater", "(JJ)J"⟩
abbrev cX12_worst : ByteArray := prog_14_method_59_code
def yX12_worst : MethodName := ⟨RX12, "worst", "(II)J"⟩
abbrev cX12_question : ByteArray := prog_14_method_60_code
def yX12_question : MethodName := ⟨RX12, "question", "()I"⟩
abbrev cX12_leastAmong : ByteArray := prog_14_method_61_code
def yX12_leastAmong : MethodName := ⟨RX12, "leastAmong", "(IZJ)J"⟩
abbrev cX12_ofTwo : ByteArray := prog_14_method_62_code
def yX12_ofTwo : MethodName := ⟨RX12, "ofTwo", "(IJ)J"⟩
abbrev cX12_worstOfTwo : ByteArray := prog_14_method_63_code
def yX12_worstOfTwo : MethodName := ⟨RX12, "worstOfTwo", "(II)J"⟩
abbrev cX12_firstOfTwo : ByteArray := prog_14_method_64_code
def yX12_firstOfTwo : MethodName := ⟨RX12, "firstOfTwo", "()I"⟩
abbrev cX12_sherd : ByteArray := prog_14_method_65_code
def yX12_sherd : MethodName := ⟨RX12, "sherd", "(II)I"⟩
abbrev cX12_set : ByteArray := prog_14_method_66_code
def yX12_set : MethodName := ⟨RX12, "set", "(II)I"⟩
abbrev cX12_isJoined : ByteArray := prog_14_method_67_code
def yX12_isJoined : MethodName := ⟨RX12, "isJoined", "(II)Z"⟩
abbrev cX12_joined : ByteArray := prog_14_method_68_code
def yX12_joined : MethodName := ⟨RX12, "joined", "(II)I"⟩
abbrev cX12_findRow : ByteArray := prog_14_method_69_code
def yX12_findRow : MethodName := ⟨RX12, "findRow", "()V"⟩
abbrev cX12_row : ByteArray := prog_14_method_70_code
def yX12_row : MethodName := ⟨RX12, "row", "(I)I"⟩
abbrev cX12_record : ByteArray := prog_14_method_71_code
def yX12_record : MethodName := ⟨RX12, "record", "(II)I"⟩
abbrev cX12_areAtOdds : ByteArray := prog_14_method_72_code
def yX12_areAtOdds : MethodName := ⟨RX12, "areAtOdds", "(II)Z"⟩
abbrev cX12_match : ByteArray := prog_14_method_73_code
def yX12_match : MethodName := ⟨RX12, "match", "(II)Z"⟩
abbrev cX12_findThings : ByteArray := prog_14_method_74_code
def yX12_findThings : MethodName := ⟨RX12, "findThings", "()V"⟩
abbrev cX12_same : ByteArray := prog_14_method_75_code
def yX12_same : MethodName := ⟨RX12, "same", "(III)I"⟩
abbrev cX12_hasCopy : ByteArray := prog_14_method_76_code
def yX12_hasCopy : MethodName := ⟨RX12, "hasCopy", "(I)Z"⟩
abbrev cX12_things : ByteArray := prog_14_method_77_code
def yX12_things : MethodName := ⟨RX12, "things", "(I)I"⟩
abbrev cX12_count : ByteArray := prog_14_method_78_code
def yX12_count : MethodName := ⟨RX12, "count", "(I)I"⟩
abbrev cX12_isSheet : ByteArray := prog_14_method_79_code
def yX12_isSheet : MethodName := ⟨RX12, "isSheet", "(I)Z"⟩
abbrev cX12_sheet : ByteArray := prog_14_method_80_code
def yX12_sheet : MethodName := ⟨RX12, "sheet", "(III)I"⟩
abbrev cX12_cell : ByteArray := prog_14_method_81_code
def yX12_cell : MethodName := ⟨RX12, "cell", "(III)I"⟩
abbrev cX12_copy : ByteArray := prog_14_method_82_code
def yX12_copy : MethodName := ⟨RX12, "copy", "(IIIII)I"⟩
abbrev cX12_papers : ByteArray := prog_14_method_83_code
def yX12_papers : MethodName := ⟨RX12, "papers", "(IIII)I"⟩
abbrev cX12_over : ByteArray := prog_14_method_84_code
def yX12_over : MethodName := ⟨RX12, "over", "(I)I"⟩
abbrev cX12_taken : ByteArray := prog_14_method_85_code
def yX12_taken : MethodName := ⟨RX12, "taken", "(II)I"⟩
def RJx145de : String := "java/io/Serializable"
def TJx145de : u_T := fun k => match k with
  | _ => ("", "", "", false)
def tyJx145de : Nat → FieldType := fun k => match k with
  | _ => .int
theorem nmJx145de : ∀ a, a < 0 → ∀ b, b < 0 → a ≠ b → (TJx145de a).2.1 ≠ (TJx145de b).2.1 := by decide +kernel
theorem tyJx145de_ok : ∀ k, k < 0 → parseFieldDescriptor (TJx145de k).2.2.1 = some (tyJx145de k) := by decide +kernel
def RJx9f9b0 : String := "java/lang/CharSequence"
def TJx9f9b0 : u_T := fun k => match k with
  | _ => ("", "", "", false)
def tyJx9f9b0 : Nat → FieldType := fun k => match k with
  | _ => .int
theorem nmJx9f9b0 : ∀ a, a < 0 → ∀ b, b < 0 → a ≠ b → (TJx9f9b0 a).2.1 ≠ (TJx9f9b0 b).2.1 := by decide +kernel
theorem tyJx9f9b0_ok : ∀ k, k < 0 → parseFieldDescriptor (TJx9f9b0 k).2.2.1 = some (tyJx9f9b0 k) := by decide +kernel
def RJx8e188 : String := "java/lang/Cloneable"
def TJx8e188 : u_T := fun k => match k with
  | _ => ("", "", "", false)
def tyJx8e188 : Nat → FieldType := fun k => match k with
  | _ => .int
theorem nmJx8e188 : ∀ a, a < 0 → ∀ b, b < 0 → a ≠ b → (TJx8e188 a).2.1 ≠ (TJx8e188 b).2.1 := by decide +kernel
theorem tyJx8e188_ok : ∀ k, k < 0 → parseFieldDescriptor (TJx8e188 k).2.2.1 = some (tyJx8e188 k) := by decide +kernel
def RJxb160c : String := "java/lang/Comparable"
def TJxb160c : u_T := fun k => match k with
  | _ => ("", "", "", false)
def tyJxb160c : Nat → FieldType := fun k => match k with
  | _ => .int
theorem nmJxb160c : ∀ a, a < 0 → ∀ b, b < 0 → a ≠ b → (TJxb160c a).2.1 ≠ (TJxb160c b).2.1 := by decide +kernel
theorem tyJxb160c_ok : ∀ k, k < 0 → parseFieldDescriptor (TJxb160c k).2.2.1 = some (tyJxb160c k) := by decide +kernel
def RJ6 : String := "java/lang/Integer"
def TJ6 : u_T := fun k => match k with
  | _ => ("", "", "", false)
def tyJ6 : Nat → FieldType := fun k => match k with
  | _ => .int
theorem nmJ6 : ∀ a, a < 0 → ∀ b, b < 0 → a ≠ b → (TJ6 a).2.1 ≠ (TJ6 b).2.1 := by decide +kernel
theorem tyJ6_ok : ∀ k, k < 0 → parseFieldDescriptor (TJ6 k).2.2.1 = some (tyJ6 k) := by decide +kernel
abbrev cJ6_numberOfTrailingZeros_0f7a4 : ByteArray := prog_16_method_48_code
def yJ6_numberOfTrailingZeros_0f7a4 : MethodName := ⟨RJ6, "numberOfTrailingZeros", "(I)I"⟩
abbrev cJ6_bitCount_0f7a4 : ByteArray := prog_16_method_49_code
def yJ6_bitCount_0f7a4 : MethodName := ⟨RJ6, "bitCount", "(I)I"⟩
def RJ9 : String := "java/lang/Math"
def TJ9 : u_T := fun k => match k with
  | _ => ("", "", "", false)
def tyJ9 : Nat → FieldType := fun k => match k with
  | _ => .int
theorem nmJ9 : ∀ a, a < 0 → ∀ b, b < 0 → a ≠ b → (TJ9 a).2.1 ≠ (TJ9 b).2.1 := by decide +kernel
theorem tyJ9_ok : ∀ k, k < 0 → parseFieldDescriptor (TJ9 k).2.2.1 = some (tyJ9 k) := by decide +kernel
abbrev cJ9_floorMod_7cf53 : ByteArray := prog_17_method_50_code
def yJ9_floorMod_7cf53 : MethodName := ⟨RJ9, "floorMod", "(II)I"⟩
abbrev cJ9_max_7cf53 : ByteArray := prog_17_method_65_code
def yJ9_max_7cf53 : MethodName := ⟨RJ9, "max", "(II)I"⟩
abbrev cJ9_max_f86c9 : ByteArray := prog_17_method_66_code
def yJ9_max_f86c9 : MethodName := ⟨RJ9, "max", "(JJ)J"⟩
abbrev cJ9_min_7cf53 : ByteArray := prog_17_method_69_code
def yJ9_min_7cf53 : MethodName := ⟨RJ9, "min", "(II)I"⟩
abbrev cJ9_min_f86c9 : ByteArray := prog_17_method_70_code
def yJ9_min_f86c9 : MethodName := ⟨RJ9, "min", "(JJ)J"⟩
def RJ0 : String := "java/lang/String"
def TJ0 : u_T := fun k => match k with
  | _ => ("", "", "", false)
def tyJ0 : Nat → FieldType := fun k => match k with
  | _ => .int
theorem nmJ0 : ∀ a, a < 0 → ∀ b, b < 0 → a ≠ b → (TJ0 a).2.1 ≠ (TJ0 b).2.1 := by decide +kernel
theorem tyJ0_ok : ∀ k, k < 0 → parseFieldDescriptor (TJ0 k).2.2.1 = some (tyJ0 k) := by decide +kernel
abbrev cJ0_length_8abf5 : ByteArray := prog_18_method_54_code
def yJ0_length_8abf5 : MethodName := ⟨RJ0, "length", "()I"⟩
abbrev cJ0_charAt_5068e : ByteArray := prog_18_method_56_code
def yJ0_charAt_5068e : MethodName := ⟨RJ0, "charAt", "(I)C"⟩
abbrev cJ0_coder_7d493 : ByteArray := prog_18_method_152_code
def yJ0_coder_7d493 : MethodName := ⟨RJ0, "coder", "()B"⟩
abbrev cJ0_isLatin1_aae02 : ByteArray := prog_18_method_154_code
def yJ0_isLatin1_aae02 : MethodName := ⟨RJ0, "isLatin1", "()Z"⟩
abbrev cJ0_checkIndex_df160 : ByteArray := prog_18_method_155_code
def yJ0_checkIndex_df160 : MethodName := ⟨RJ0, "checkIndex", "(II)V"⟩
def RJ1 : String := "java/lang/StringLatin1"
def TJ1 : u_T := fun k => match k with
  | _ => ("", "", "", false)
def tyJ1 : Nat → FieldType := fun k => match k with
  | _ => .int
theorem nmJ1 : ∀ a, a < 0 → ∀ b, b < 0 → a ≠ b → (TJ1 a).2.1 ≠ (TJ1 b).2.1 := by decide +kernel
theorem tyJ1_ok : ∀ k, k < 0 → parseFieldDescriptor (TJ1 k).2.2.1 = some (tyJ1 k) := by decide +kernel
abbrev cJ1_charAt_3b067 : ByteArray := prog_19_method_2_code
def yJ1_charAt_3b067 : MethodName := ⟨RJ1, "charAt", "([BI)C"⟩
def RJ2 : String := "java/lang/StringUTF16"
def TJ2 : u_T := fun k => match k with
  | _ => ("", "", "", false)
def tyJ2 : Nat → FieldType := fun k => match k with
  | _ => .int
theorem nmJ2 : ∀ a, a < 0 → ∀ b, b < 0 → a ≠ b → (TJ2 a).2.1 ≠ (TJ2 b).2.1 := by decide +kernel
theorem tyJ2_ok : ∀ k, k < 0 → parseFieldDescriptor (TJ2 k).2.2.1 = some (tyJ2 k) := by decide +kernel
abbrev cJ2_getChar_3b067 : ByteArray := prog_20_method_5_code
def yJ2_getChar_3b067 : MethodName := ⟨RJ2, "getChar", "([BI)C"⟩
abbrev cJ2_length_9d52b : ByteArray := prog_20_method_6_code
def yJ2_length_9d52b : MethodName := ⟨RJ2, "length", "([B)I"⟩
abbrev cJ2_charAt_3b067 : ByteArray := prog_20_method_83_code
def yJ2_charAt_3b067 : MethodName := ⟨RJ2, "charAt", "([BI)C"⟩
abbrev cJ2_checkIndex_2214a : ByteArray := prog_20_method_91_code
def yJ2_checkIndex_2214a : MethodName := ⟨RJ2, "checkIndex", "(I[B)V"⟩
def RJ10 : String := "java/lang/System"
def TJ10 : u_T := fun k => match k with
  | _ => ("", "", "", false)
def tyJ10 : Nat → FieldType := fun k => match k with
  | _ => .int
theorem nmJ10 : ∀ a, a < 0 → ∀ b, b < 0 → a ≠ b → (TJ10 a).2.1 ≠ (TJ10 b).2.1 := by decide +kernel
theorem tyJ10_ok : ∀ k, k < 0 → parseFieldDescriptor (TJ10 k).2.2.1 = some (tyJ10 k) := by decide +kernel
def RJxfd54e : String := "java/lang/constant/Constable"
def TJxfd54e : u_T := fun k => match k with
  | _ => ("", "", "", false)
def tyJxfd54e : Nat → FieldType := fun k => match k with
  | _ => .int
theorem nmJxfd54e : ∀ a, a < 0 → ∀ b, b < 0 → a ≠ b → (TJxfd54e a).2.1 ≠ (TJxfd54e b).2.1 := by decide +kernel
theorem tyJxfd54e_ok : ∀ k, k < 0 → parseFieldDescriptor (TJxfd54e k).2.2.1 = some (tyJxfd54e k) := by decide +kernel
def RJx3cf43 : String := "java/lang/constant/ConstantDesc"
def TJx3cf43 : u_T := fun k => match k with
  | _ => ("", "", "", false)
def tyJx3cf43 : Nat → FieldType := fun k => match k with
  | _ => .int
theorem nmJx3cf43 : ∀ a, a < 0 → ∀ b, b < 0 → a ≠ b → (TJx3cf43 a).2.1 ≠ (TJx3cf43 b).2.1 := by decide +kernel
theorem tyJx3cf43_ok : ∀ k, k < 0 → parseFieldDescriptor (TJx3cf43 k).2.2.1 = some (tyJx3cf43 k) := by decide +kernel
def RJ7 : String := "java/util/Arrays"
def TJ7 : u_T := fun k => match k with
  | _ => ("", "", "", false)
def tyJ7 : Nat → FieldType := fun k => match k with
  | _ => .int
theorem nmJ7 : ∀ a, a < 0 → ∀ b, b < 0 → a ≠ b → (TJ7 a).2.1 ≠ (TJ7 b).2.1 := by decide +kernel
theorem tyJ7_ok : ∀ k, k < 0 → parseFieldDescriptor (TJ7 k).2.2.1 = some (tyJ7 k) := by decide +kernel
abbrev cJ7_fill_d0a16 : ByteArray := prog_22_method_101_code
def yJ7_fill_d0a16 : MethodName := ⟨RJ7, "fill", "([JJ)V"⟩
abbrev cJ7_copyOf_59c91 : ByteArray := prog_22_method_123_code
def yJ7_copyOf_59c91 : MethodName := ⟨RJ7, "copyOf", "([II)[I"⟩
def RJ3 : String := "jdk/internal/util/Preconditions"
def TJ3 : u_T := fun k => match k with
  | _ => ("", "", "", false)
def tyJ3 : Nat → FieldType := fun k => match k with
  | _ => .int
theorem nmJ3 : ∀ a, a < 0 → ∀ b, b < 0 → a ≠ b → (TJ3 a).2.1 ≠ (TJ3 b).2.1 := by decide +kernel
theorem tyJ3_ok : ∀ k, k < 0 → parseFieldDescriptor (TJ3 k).2.2.1 = some (tyJ3 k) := by decide +kernel
abbrev cJ3_checkIndex_8e157 : ByteArray := prog_23_method_11_code
def yJ3_checkIndex_8e157 : MethodName := ⟨RJ3, "checkIndex", "(IILjava/util/function/BiFunction;)I"⟩
def RL : String := "VaseCourtLaw"
abbrev cL_cell : ByteArray := method_2_code
def yL_cell : MethodName := ⟨RL, "cell", "([II)I"⟩
abbrev cL_law : ByteArray := code
def yL_law : MethodName := ⟨RL, "law", "([I)Z"⟩
abbrev vwCl : List vw_C := [(RX0, TX0, 8), (RX1, TX1, 7), (RX2, TX2, 2), (RX3, TX3, 11), (RX4, TX4, 8), (RX5, TX5, 9), (RX6, TX6, 4), (RX7, TX7, 3), (RX8, TX8, 7), (RX9, TX9, 2), (RX10, TX10, 2), (RX11, TX11, 11), (RX12, TX12, 61)]
