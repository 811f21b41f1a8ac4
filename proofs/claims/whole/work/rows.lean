section
-- ===== PART A: goes FIRST, ahead of the names: the tables' words, and 'selects' of the private methods out of them =====
/-- a private method of a class that the tables say can be made, by its rows of tables_1 -/
def lw_okq (q : MethodName × Nat) : Prop := (q.1.cls ≠ "java/lang/invoke/MethodHandle" ∧ q.1.cls ≠ "java/lang/invoke/VarHandle") ∧ Cond.instantiable q.1.cls q.2 ∈ tables_1 ∧ Cond.privateMethod q.1 ∈ tables_1 ∧ Cond.instanceMethod q.1 ∈ tables_1
theorem lw_p0 : lw_okq (⟨"VaseCourt", "isMovePeriod", "(I)Z"⟩, 11) := ⟨⟨by decide +kernel, by decide +kernel⟩, List.mem_of_getElem? (i := 23) (by decide +kernel), List.mem_of_getElem? (i := 372) (by decide +kernel), List.mem_of_getElem? (i := 373) (by decide +kernel)⟩
theorem lw_p1 : lw_okq (⟨"VaseCourt", "isPeriod", "(I)Z"⟩, 11) := ⟨⟨by decide +kernel, by decide +kernel⟩, List.mem_of_getElem? (i := 23) (by decide +kernel), List.mem_of_getElem? (i := 388) (by decide +kernel), List.mem_of_getElem? (i := 389) (by decide +kernel)⟩
theorem lw_p2 : lw_okq (⟨"VaseCourt$PaperFile", "standingWithout", "(I)I"⟩, 8) := ⟨⟨by decide +kernel, by decide +kernel⟩, List.mem_of_getElem? (i := 49) (by decide +kernel), List.mem_of_getElem? (i := 400) (by decide +kernel), List.mem_of_getElem? (i := 401) (by decide +kernel)⟩
theorem lw_p3 : lw_okq (⟨"VaseCourt", "isPlace", "(II)Z"⟩, 11) := ⟨⟨by decide +kernel, by decide +kernel⟩, List.mem_of_getElem? (i := 23) (by decide +kernel), List.mem_of_getElem? (i := 420) (by decide +kernel), List.mem_of_getElem? (i := 421) (by decide +kernel)⟩
theorem lw_p4 : lw_okq (⟨"VaseCourt$PaperFile", "landsByKind", "(III)I"⟩, 8) := ⟨⟨by decide +kernel, by decide +kernel⟩, List.mem_of_getElem? (i := 49) (by decide +kernel), List.mem_of_getElem? (i := 428) (by decide +kernel), List.mem_of_getElem? (i := 429) (by decide +kernel)⟩
theorem lw_p5 : lw_okq (⟨"VaseCourt$Chronicle", "beginningsTo", "(II)J"⟩, 7) := ⟨⟨by decide +kernel, by decide +kernel⟩, List.mem_of_getElem? (i := 89) (by decide +kernel), List.mem_of_getElem? (i := 477) (by decide +kernel), List.mem_of_getElem? (i := 478) (by decide +kernel)⟩
theorem lw_p6 : lw_okq (⟨"VaseCourt$Chronicle", "sumBefore", "([JII)J"⟩, 7) := ⟨⟨by decide +kernel, by decide +kernel⟩, List.mem_of_getElem? (i := 89) (by decide +kernel), List.mem_of_getElem? (i := 481) (by decide +kernel), List.mem_of_getElem? (i := 482) (by decide +kernel)⟩
theorem lw_p7 : lw_okq (⟨"VaseCourt$Chronicle", "endsFrom", "(II)J"⟩, 7) := ⟨⟨by decide +kernel, by decide +kernel⟩, List.mem_of_getElem? (i := 89) (by decide +kernel), List.mem_of_getElem? (i := 493) (by decide +kernel), List.mem_of_getElem? (i := 494) (by decide +kernel)⟩
theorem lw_p8 : lw_okq (⟨"VaseCourt$Chronicle", "sumBehind", "([JII)J"⟩, 7) := ⟨⟨by decide +kernel, by decide +kernel⟩, List.mem_of_getElem? (i := 89) (by decide +kernel), List.mem_of_getElem? (i := 497) (by decide +kernel), List.mem_of_getElem? (i := 498) (by decide +kernel)⟩
theorem lw_p9 : lw_okq (⟨"VaseCourt$Chronicle", "goingTo", "(III)J"⟩, 7) := ⟨⟨by decide +kernel, by decide +kernel⟩, List.mem_of_getElem? (i := 89) (by decide +kernel), List.mem_of_getElem? (i := 541) (by decide +kernel), List.mem_of_getElem? (i := 542) (by decide +kernel)⟩
theorem lw_p10 : lw_okq (⟨"VaseCourt$Reader", "advance", "()V"⟩, 9) := ⟨⟨by decide +kernel, by decide +kernel⟩, List.mem_of_getElem? (i := 123) (by decide +kernel), List.mem_of_getElem? (i := 561) (by decide +kernel), List.mem_of_getElem? (i := 562) (by decide +kernel)⟩
theorem lw_p11 : lw_okq (⟨"VaseCourt$Reader", "readWord", "()I"⟩, 9) := ⟨⟨by decide +kernel, by decide +kernel⟩, List.mem_of_getElem? (i := 123) (by decide +kernel), List.mem_of_getElem? (i := 568) (by decide +kernel), List.mem_of_getElem? (i := 569) (by decide +kernel)⟩
theorem lw_p12 : lw_okq (⟨"VaseCourt$Reader", "spells", "(Ljava/lang/String;)Z"⟩, 9) := ⟨⟨by decide +kernel, by decide +kernel⟩, List.mem_of_getElem? (i := 123) (by decide +kernel), List.mem_of_getElem? (i := 573) (by decide +kernel), List.mem_of_getElem? (i := 574) (by decide +kernel)⟩
theorem lw_p13 : lw_okq (⟨"VaseCourt$Reader", "readNumber", "()I"⟩, 9) := ⟨⟨by decide +kernel, by decide +kernel⟩, List.mem_of_getElem? (i := 123) (by decide +kernel), List.mem_of_getElem? (i := 638) (by decide +kernel), List.mem_of_getElem? (i := 639) (by decide +kernel)⟩
theorem lw_p14 : lw_okq (⟨"VaseCourt$Reader", "readSign", "()I"⟩, 9) := ⟨⟨by decide +kernel, by decide +kernel⟩, List.mem_of_getElem? (i := 123) (by decide +kernel), List.mem_of_getElem? (i := 642) (by decide +kernel), List.mem_of_getElem? (i := 643) (by decide +kernel)⟩
theorem lw_p15 : lw_okq (⟨"VaseCourt$Reader", "readPart", "(I)Z"⟩, 9) := ⟨⟨by decide +kernel, by decide +kernel⟩, List.mem_of_getElem? (i := 123) (by decide +kernel), List.mem_of_getElem? (i := 646) (by decide +kernel), List.mem_of_getElem? (i := 647) (by decide +kernel)⟩
def lw_privs_1 : List (MethodName × Nat) := [(⟨"VaseCourt", "isMovePeriod", "(I)Z"⟩, 11), (⟨"VaseCourt", "isPeriod", "(I)Z"⟩, 11), (⟨"VaseCourt$PaperFile", "standingWithout", "(I)I"⟩, 8), (⟨"VaseCourt", "isPlace", "(II)Z"⟩, 11), (⟨"VaseCourt$PaperFile", "landsByKind", "(III)I"⟩, 8), (⟨"VaseCourt$Chronicle", "beginningsTo", "(II)J"⟩, 7), (⟨"VaseCourt$Chronicle", "sumBefore", "([JII)J"⟩, 7), (⟨"VaseCourt$Chronicle", "endsFrom", "(II)J"⟩, 7), (⟨"VaseCourt$Chronicle", "sumBehind", "([JII)J"⟩, 7), (⟨"VaseCourt$Chronicle", "goingTo", "(III)J"⟩, 7), (⟨"VaseCourt$Reader", "advance", "()V"⟩, 9), (⟨"VaseCourt$Reader", "readWord", "()I"⟩, 9), (⟨"VaseCourt$Reader", "spells", "(Ljava/lang/String;)Z"⟩, 9), (⟨"VaseCourt$Reader", "readNumber", "()I"⟩, 9), (⟨"VaseCourt$Reader", "readSign", "()I"⟩, 9), (⟨"VaseCourt$Reader", "readPart", "(I)Z"⟩, 9)]
theorem lw_r1 : ∀ q ∈ lw_privs_1, lw_okq q := List.forall_mem_cons.mpr ⟨lw_p0, List.forall_mem_cons.mpr ⟨lw_p1, List.forall_mem_cons.mpr ⟨lw_p2, List.forall_mem_cons.mpr ⟨lw_p3, List.forall_mem_cons.mpr ⟨lw_p4, List.forall_mem_cons.mpr ⟨lw_p5, List.forall_mem_cons.mpr ⟨lw_p6, List.forall_mem_cons.mpr ⟨lw_p7, List.forall_mem_cons.mpr ⟨lw_p8, List.forall_mem_cons.mpr ⟨lw_p9, List.forall_mem_cons.mpr ⟨lw_p10, List.forall_mem_cons.mpr ⟨lw_p11, List.forall_mem_cons.mpr ⟨lw_p12, List.forall_mem_cons.mpr ⟨lw_p13, List.forall_mem_cons.mpr ⟨lw_p14, List.forall_mem_cons.mpr ⟨lw_p15, fun _ h => absurd h List.not_mem_nil⟩⟩⟩⟩⟩⟩⟩⟩⟩⟩⟩⟩⟩⟩⟩⟩
theorem lw_p16 : lw_okq (⟨"VaseCourt$Reader", "pass", "(I)Z"⟩, 9) := ⟨⟨by decide +kernel, by decide +kernel⟩, List.mem_of_getElem? (i := 123) (by decide +kernel), List.mem_of_getElem? (i := 650) (by decide +kernel), List.mem_of_getElem? (i := 651) (by decide +kernel)⟩
theorem lw_p17 : lw_okq (⟨"VaseCourt$Reader", "readOr", "(I)Z"⟩, 9) := ⟨⟨by decide +kernel, by decide +kernel⟩, List.mem_of_getElem? (i := 123) (by decide +kernel), List.mem_of_getElem? (i := 654) (by decide +kernel), List.mem_of_getElem? (i := 655) (by decide +kernel)⟩
theorem lw_p18 : lw_okq (⟨"VaseCourt$Reader", "readAnd", "(I)Z"⟩, 9) := ⟨⟨by decide +kernel, by decide +kernel⟩, List.mem_of_getElem? (i := 123) (by decide +kernel), List.mem_of_getElem? (i := 658) (by decide +kernel), List.mem_of_getElem? (i := 659) (by decide +kernel)⟩
theorem lw_p19 : lw_okq (⟨"VaseCourt$Reader", "readNot", "(I)Z"⟩, 9) := ⟨⟨by decide +kernel, by decide +kernel⟩, List.mem_of_getElem? (i := 123) (by decide +kernel), List.mem_of_getElem? (i := 662) (by decide +kernel), List.mem_of_getElem? (i := 663) (by decide +kernel)⟩
theorem lw_p20 : lw_okq (⟨"VaseCourt$Reader", "write", "(I)Z"⟩, 9) := ⟨⟨by decide +kernel, by decide +kernel⟩, List.mem_of_getElem? (i := 123) (by decide +kernel), List.mem_of_getElem? (i := 666) (by decide +kernel), List.mem_of_getElem? (i := 667) (by decide +kernel)⟩
theorem lw_p21 : lw_okq (⟨"VaseCourt$Reader", "readSum", "(I)Z"⟩, 9) := ⟨⟨by decide +kernel, by decide +kernel⟩, List.mem_of_getElem? (i := 123) (by decide +kernel), List.mem_of_getElem? (i := 670) (by decide +kernel), List.mem_of_getElem? (i := 671) (by decide +kernel)⟩
theorem lw_p22 : lw_okq (⟨"VaseCourt$Reader", "readTerm", "(I)Z"⟩, 9) := ⟨⟨by decide +kernel, by decide +kernel⟩, List.mem_of_getElem? (i := 123) (by decide +kernel), List.mem_of_getElem? (i := 674) (by decide +kernel), List.mem_of_getElem? (i := 675) (by decide +kernel)⟩
theorem lw_p23 : lw_okq (⟨"VaseCourt$Reader", "readOne", "(I)Z"⟩, 9) := ⟨⟨by decide +kernel, by decide +kernel⟩, List.mem_of_getElem? (i := 123) (by decide +kernel), List.mem_of_getElem? (i := 678) (by decide +kernel), List.mem_of_getElem? (i := 679) (by decide +kernel)⟩
theorem lw_p24 : lw_okq (⟨"VaseCourt$LawBook", "look", "(III)LVaseCourt$Text;"⟩, 11) := ⟨⟨by decide +kernel, by decide +kernel⟩, List.mem_of_getElem? (i := 160) (by decide +kernel), List.mem_of_getElem? (i := 728) (by decide +kernel), List.mem_of_getElem? (i := 729) (by decide +kernel)⟩
theorem lw_p25 : lw_okq (⟨"VaseCourt$LawBook", "name", "(II)V"⟩, 11) := ⟨⟨by decide +kernel, by decide +kernel⟩, List.mem_of_getElem? (i := 160) (by decide +kernel), List.mem_of_getElem? (i := 732) (by decide +kernel), List.mem_of_getElem? (i := 733) (by decide +kernel)⟩
theorem lw_p26 : lw_okq (⟨"VaseCourt$LawBook", "valueOf", "([III)I"⟩, 11) := ⟨⟨by decide +kernel, by decide +kernel⟩, List.mem_of_getElem? (i := 160) (by decide +kernel), List.mem_of_getElem? (i := 739) (by decide +kernel), List.mem_of_getElem? (i := 740) (by decide +kernel)⟩
theorem lw_p27 : lw_okq (⟨"VaseCourt", "giveAll", "()V"⟩, 11) := ⟨⟨by decide +kernel, by decide +kernel⟩, List.mem_of_getElem? (i := 23) (by decide +kernel), List.mem_of_getElem? (i := 757) (by decide +kernel), List.mem_of_getElem? (i := 758) (by decide +kernel)⟩
theorem lw_p28 : lw_okq (⟨"VaseCourt$Bench", "goOn", "(III)V"⟩, 8) := ⟨⟨by decide +kernel, by decide +kernel⟩, List.mem_of_getElem? (i := 218) (by decide +kernel), List.mem_of_getElem? (i := 767) (by decide +kernel), List.mem_of_getElem? (i := 768) (by decide +kernel)⟩
theorem lw_p29 : lw_okq (⟨"VaseCourt$Sherds", "findFollowers", "()V"⟩, 7) := ⟨⟨by decide +kernel, by decide +kernel⟩, List.mem_of_getElem? (i := 263) (by decide +kernel), List.mem_of_getElem? (i := 902) (by decide +kernel), List.mem_of_getElem? (i := 903) (by decide +kernel)⟩
theorem lw_p30 : lw_okq (⟨"VaseCourt$Sherds", "findStarts", "()I"⟩, 7) := ⟨⟨by decide +kernel, by decide +kernel⟩, List.mem_of_getElem? (i := 263) (by decide +kernel), List.mem_of_getElem? (i := 907) (by decide +kernel), List.mem_of_getElem? (i := 908) (by decide +kernel)⟩
theorem lw_p31 : lw_okq (⟨"VaseCourt$Sherds", "leastOf", "(I)I"⟩, 7) := ⟨⟨by decide +kernel, by decide +kernel⟩, List.mem_of_getElem? (i := 263) (by decide +kernel), List.mem_of_getElem? (i := 914) (by decide +kernel), List.mem_of_getElem? (i := 915) (by decide +kernel)⟩
def lw_privs_2 : List (MethodName × Nat) := [(⟨"VaseCourt$Reader", "pass", "(I)Z"⟩, 9), (⟨"VaseCourt$Reader", "readOr", "(I)Z"⟩, 9), (⟨"VaseCourt$Reader", "readAnd", "(I)Z"⟩, 9), (⟨"VaseCourt$Reader", "readNot", "(I)Z"⟩, 9), (⟨"VaseCourt$Reader", "write", "(I)Z"⟩, 9), (⟨"VaseCourt$Reader", "readSum", "(I)Z"⟩, 9), (⟨"VaseCourt$Reader", "readTerm", "(I)Z"⟩, 9), (⟨"VaseCourt$Reader", "readOne", "(I)Z"⟩, 9), (⟨"VaseCourt$LawBook", "look", "(III)LVaseCourt$Text;"⟩, 11), (⟨"VaseCourt$LawBook", "name", "(II)V"⟩, 11), (⟨"VaseCourt$LawBook", "valueOf", "([III)I"⟩, 11), (⟨"VaseCourt", "giveAll", "()V"⟩, 11), (⟨"VaseCourt$Bench", "goOn", "(III)V"⟩, 8), (⟨"VaseCourt$Sherds", "findFollowers", "()V"⟩, 7), (⟨"VaseCourt$Sherds", "findStarts", "()I"⟩, 7), (⟨"VaseCourt$Sherds", "leastOf", "(I)I"⟩, 7)]
theorem lw_r2 : ∀ q ∈ lw_privs_2, lw_okq q := List.forall_mem_cons.mpr ⟨lw_p16, List.forall_mem_cons.mpr ⟨lw_p17, List.forall_mem_cons.mpr ⟨lw_p18, List.forall_mem_cons.mpr ⟨lw_p19, List.forall_mem_cons.mpr ⟨lw_p20, List.forall_mem_cons.mpr ⟨lw_p21, List.forall_mem_cons.mpr ⟨lw_p22, List.forall_mem_cons.mpr ⟨lw_p23, List.forall_mem_cons.mpr ⟨lw_p24, List.forall_mem_cons.mpr ⟨lw_p25, List.forall_mem_cons.mpr ⟨lw_p26, List.forall_mem_cons.mpr ⟨lw_p27, List.forall_mem_cons.mpr ⟨lw_p28, List.forall_mem_cons.mpr ⟨lw_p29, List.forall_mem_cons.mpr ⟨lw_p30, List.forall_mem_cons.mpr ⟨lw_p31, fun _ h => absurd h List.not_mem_nil⟩⟩⟩⟩⟩⟩⟩⟩⟩⟩⟩⟩⟩⟩⟩⟩
theorem lw_p32 : lw_okq (⟨"VaseCourt$Records", "matchesOneOf", "(II)Z"⟩, 4) := ⟨⟨by decide +kernel, by decide +kernel⟩, List.mem_of_getElem? (i := 293) (by decide +kernel), List.mem_of_getElem? (i := 960) (by decide +kernel), List.mem_of_getElem? (i := 961) (by decide +kernel)⟩
theorem lw_p33 : lw_okq (⟨"VaseCourt$Records", "tellsCopy", "(I)Z"⟩, 4) := ⟨⟨by decide +kernel, by decide +kernel⟩, List.mem_of_getElem? (i := 293) (by decide +kernel), List.mem_of_getElem? (i := 974) (by decide +kernel), List.mem_of_getElem? (i := 975) (by decide +kernel)⟩
theorem lw_p34 : lw_okq (⟨"VaseCourt", "paperFrom", "(II)I"⟩, 11) := ⟨⟨by decide +kernel, by decide +kernel⟩, List.mem_of_getElem? (i := 23) (by decide +kernel), List.mem_of_getElem? (i := 1032) (by decide +kernel), List.mem_of_getElem? (i := 1033) (by decide +kernel)⟩
theorem lw_p35 : lw_okq (⟨"VaseCourtModel", "spell", "(IJ)V"⟩, 61) := ⟨⟨by decide +kernel, by decide +kernel⟩, List.mem_of_getElem? (i := 1051) (by decide +kernel), List.mem_of_getElem? (i := 1058) (by decide +kernel), List.mem_of_getElem? (i := 1059) (by decide +kernel)⟩
theorem lw_p36 : lw_okq (⟨"VaseCourtModel", "isPeriod", "(I)Z"⟩, 61) := ⟨⟨by decide +kernel, by decide +kernel⟩, List.mem_of_getElem? (i := 1051) (by decide +kernel), List.mem_of_getElem? (i := 1267) (by decide +kernel), List.mem_of_getElem? (i := 1268) (by decide +kernel)⟩
theorem lw_p37 : lw_okq (⟨"VaseCourtModel", "isPaper", "(I)Z"⟩, 61) := ⟨⟨by decide +kernel, by decide +kernel⟩, List.mem_of_getElem? (i := 1051) (by decide +kernel), List.mem_of_getElem? (i := 1275) (by decide +kernel), List.mem_of_getElem? (i := 1276) (by decide +kernel)⟩
theorem lw_p38 : lw_okq (⟨"VaseCourtModel", "standing", "(I)I"⟩, 61) := ⟨⟨by decide +kernel, by decide +kernel⟩, List.mem_of_getElem? (i := 1051) (by decide +kernel), List.mem_of_getElem? (i := 1279) (by decide +kernel), List.mem_of_getElem? (i := 1280) (by decide +kernel)⟩
theorem lw_p39 : lw_okq (⟨"VaseCourtModel", "isPlace", "(II)Z"⟩, 61) := ⟨⟨by decide +kernel, by decide +kernel⟩, List.mem_of_getElem? (i := 1051) (by decide +kernel), List.mem_of_getElem? (i := 1287) (by decide +kernel), List.mem_of_getElem? (i := 1288) (by decide +kernel)⟩
theorem lw_p40 : lw_okq (⟨"VaseCourtModel", "lets", "(III)Z"⟩, 61) := ⟨⟨by decide +kernel, by decide +kernel⟩, List.mem_of_getElem? (i := 1051) (by decide +kernel), List.mem_of_getElem? (i := 1291) (by decide +kernel), List.mem_of_getElem? (i := 1292) (by decide +kernel)⟩
theorem lw_p41 : lw_okq (⟨"VaseCourtModel", "all", "()J"⟩, 61) := ⟨⟨by decide +kernel, by decide +kernel⟩, List.mem_of_getElem? (i := 1051) (by decide +kernel), List.mem_of_getElem? (i := 1310) (by decide +kernel), List.mem_of_getElem? (i := 1311) (by decide +kernel)⟩
theorem lw_p42 : lw_okq (⟨"VaseCourtModel", "layOut", "()V"⟩, 61) := ⟨⟨by decide +kernel, by decide +kernel⟩, List.mem_of_getElem? (i := 1051) (by decide +kernel), List.mem_of_getElem? (i := 1314) (by decide +kernel), List.mem_of_getElem? (i := 1315) (by decide +kernel)⟩
theorem lw_p43 : lw_okq (⟨"VaseCourtModel", "openWays", "(III)I"⟩, 61) := ⟨⟨by decide +kernel, by decide +kernel⟩, List.mem_of_getElem? (i := 1051) (by decide +kernel), List.mem_of_getElem? (i := 1318) (by decide +kernel), List.mem_of_getElem? (i := 1319) (by decide +kernel)⟩
theorem lw_p44 : lw_okq (⟨"VaseCourtModel", "counted", "()J"⟩, 61) := ⟨⟨by decide +kernel, by decide +kernel⟩, List.mem_of_getElem? (i := 1051) (by decide +kernel), List.mem_of_getElem? (i := 1322) (by decide +kernel), List.mem_of_getElem? (i := 1323) (by decide +kernel)⟩
theorem lw_p45 : lw_okq (⟨"VaseCourtModel", "through", "(II)J"⟩, 61) := ⟨⟨by decide +kernel, by decide +kernel⟩, List.mem_of_getElem? (i := 1051) (by decide +kernel), List.mem_of_getElem? (i := 1331) (by decide +kernel), List.mem_of_getElem? (i := 1332) (by decide +kernel)⟩
theorem lw_p46 : lw_okq (⟨"VaseCourtModel", "spread", "(II)V"⟩, 61) := ⟨⟨by decide +kernel, by decide +kernel⟩, List.mem_of_getElem? (i := 1051) (by decide +kernel), List.mem_of_getElem? (i := 1339) (by decide +kernel), List.mem_of_getElem? (i := 1340) (by decide +kernel)⟩
theorem lw_p47 : lw_okq (⟨"VaseCourtModel", "read", "(IIIII)I"⟩, 61) := ⟨⟨by decide +kernel, by decide +kernel⟩, List.mem_of_getElem? (i := 1051) (by decide +kernel), List.mem_of_getElem? (i := 1355) (by decide +kernel), List.mem_of_getElem? (i := 1356) (by decide +kernel)⟩
def lw_privs_3 : List (MethodName × Nat) := [(⟨"VaseCourt$Records", "matchesOneOf", "(II)Z"⟩, 4), (⟨"VaseCourt$Records", "tellsCopy", "(I)Z"⟩, 4), (⟨"VaseCourt", "paperFrom", "(II)I"⟩, 11), (⟨"VaseCourtModel", "spell", "(IJ)V"⟩, 61), (⟨"VaseCourtModel", "isPeriod", "(I)Z"⟩, 61), (⟨"VaseCourtModel", "isPaper", "(I)Z"⟩, 61), (⟨"VaseCourtModel", "standing", "(I)I"⟩, 61), (⟨"VaseCourtModel", "isPlace", "(II)Z"⟩, 61), (⟨"VaseCourtModel", "lets", "(III)Z"⟩, 61), (⟨"VaseCourtModel", "all", "()J"⟩, 61), (⟨"VaseCourtModel", "layOut", "()V"⟩, 61), (⟨"VaseCourtModel", "openWays", "(III)I"⟩, 61), (⟨"VaseCourtModel", "counted", "()J"⟩, 61), (⟨"VaseCourtModel", "through", "(II)J"⟩, 61), (⟨"VaseCourtModel", "spread", "(II)V"⟩, 61), (⟨"VaseCourtModel", "read", "(IIIII)I"⟩, 61)]
theorem lw_r3 : ∀ q ∈ lw_privs_3, lw_okq q := List.forall_mem_cons.mpr ⟨lw_p32, List.forall_mem_cons.mpr ⟨lw_p33, List.forall_mem_cons.mpr ⟨lw_p34, List.forall_mem_cons.mpr ⟨lw_p35, List.forall_mem_cons.mpr ⟨lw_p36, List.forall_mem_cons.mpr ⟨lw_p37, List.forall_mem_cons.mpr ⟨lw_p38, List.forall_mem_cons.mpr ⟨lw_p39, List.forall_mem_cons.mpr ⟨lw_p40, List.forall_mem_cons.mpr ⟨lw_p41, List.forall_mem_cons.mpr ⟨lw_p42, List.forall_mem_cons.mpr ⟨lw_p43, List.forall_mem_cons.mpr ⟨lw_p44, List.forall_mem_cons.mpr ⟨lw_p45, List.forall_mem_cons.mpr ⟨lw_p46, List.forall_mem_cons.mpr ⟨lw_p47, fun _ h => absurd h List.not_mem_nil⟩⟩⟩⟩⟩⟩⟩⟩⟩⟩⟩⟩⟩⟩⟩⟩
theorem lw_p48 : lw_okq (⟨"VaseCourtModel", "next", "()V"⟩, 61) := ⟨⟨by decide +kernel, by decide +kernel⟩, List.mem_of_getElem? (i := 1051) (by decide +kernel), List.mem_of_getElem? (i := 1359) (by decide +kernel), List.mem_of_getElem? (i := 1360) (by decide +kernel)⟩
theorem lw_p49 : lw_okq (⟨"VaseCourtModel", "byteAt", "(I)I"⟩, 61) := ⟨⟨by decide +kernel, by decide +kernel⟩, List.mem_of_getElem? (i := 1051) (by decide +kernel), List.mem_of_getElem? (i := 1363) (by decide +kernel), List.mem_of_getElem? (i := 1364) (by decide +kernel)⟩
theorem lw_p50 : lw_okq (⟨"VaseCourtModel", "part", "(J)I"⟩, 61) := ⟨⟨by decide +kernel, by decide +kernel⟩, List.mem_of_getElem? (i := 1051) (by decide +kernel), List.mem_of_getElem? (i := 1373) (by decide +kernel), List.mem_of_getElem? (i := 1374) (by decide +kernel)⟩
theorem lw_p51 : lw_okq (⟨"VaseCourtModel", "isWord", "(J)Z"⟩, 61) := ⟨⟨by decide +kernel, by decide +kernel⟩, List.mem_of_getElem? (i := 1051) (by decide +kernel), List.mem_of_getElem? (i := 1377) (by decide +kernel), List.mem_of_getElem? (i := 1378) (by decide +kernel)⟩
theorem lw_p52 : lw_okq (⟨"VaseCourtModel", "fail", "()V"⟩, 61) := ⟨⟨by decide +kernel, by decide +kernel⟩, List.mem_of_getElem? (i := 1051) (by decide +kernel), List.mem_of_getElem? (i := 1381) (by decide +kernel), List.mem_of_getElem? (i := 1382) (by decide +kernel)⟩
theorem lw_p53 : lw_okq (⟨"VaseCourtModel", "either", "()I"⟩, 61) := ⟨⟨by decide +kernel, by decide +kernel⟩, List.mem_of_getElem? (i := 1051) (by decide +kernel), List.mem_of_getElem? (i := 1385) (by decide +kernel), List.mem_of_getElem? (i := 1386) (by decide +kernel)⟩
theorem lw_p54 : lw_okq (⟨"VaseCourtModel", "both", "()I"⟩, 61) := ⟨⟨by decide +kernel, by decide +kernel⟩, List.mem_of_getElem? (i := 1051) (by decide +kernel), List.mem_of_getElem? (i := 1389) (by decide +kernel), List.mem_of_getElem? (i := 1390) (by decide +kernel)⟩
theorem lw_p55 : lw_okq (⟨"VaseCourtModel", "not", "()I"⟩, 61) := ⟨⟨by decide +kernel, by decide +kernel⟩, List.mem_of_getElem? (i := 1051) (by decide +kernel), List.mem_of_getElem? (i := 1393) (by decide +kernel), List.mem_of_getElem? (i := 1394) (by decide +kernel)⟩
theorem lw_p56 : lw_okq (⟨"VaseCourtModel", "opens", "()Z"⟩, 61) := ⟨⟨by decide +kernel, by decide +kernel⟩, List.mem_of_getElem? (i := 1051) (by decide +kernel), List.mem_of_getElem? (i := 1398) (by decide +kernel), List.mem_of_getElem? (i := 1399) (by decide +kernel)⟩
theorem lw_p57 : lw_okq (⟨"VaseCourtModel", "added", "()I"⟩, 61) := ⟨⟨by decide +kernel, by decide +kernel⟩, List.mem_of_getElem? (i := 1051) (by decide +kernel), List.mem_of_getElem? (i := 1402) (by decide +kernel), List.mem_of_getElem? (i := 1403) (by decide +kernel)⟩
theorem lw_p58 : lw_okq (⟨"VaseCourtModel", "term", "()I"⟩, 61) := ⟨⟨by decide +kernel, by decide +kernel⟩, List.mem_of_getElem? (i := 1051) (by decide +kernel), List.mem_of_getElem? (i := 1406) (by decide +kernel), List.mem_of_getElem? (i := 1407) (by decide +kernel)⟩
theorem lw_p59 : lw_okq (⟨"VaseCourtModel", "one", "()I"⟩, 61) := ⟨⟨by decide +kernel, by decide +kernel⟩, List.mem_of_getElem? (i := 1051) (by decide +kernel), List.mem_of_getElem? (i := 1410) (by decide +kernel), List.mem_of_getElem? (i := 1411) (by decide +kernel)⟩
theorem lw_p60 : lw_okq (⟨"VaseCourtModel", "isSign", "(I)Z"⟩, 61) := ⟨⟨by decide +kernel, by decide +kernel⟩, List.mem_of_getElem? (i := 1051) (by decide +kernel), List.mem_of_getElem? (i := 1414) (by decide +kernel), List.mem_of_getElem? (i := 1415) (by decide +kernel)⟩
theorem lw_p61 : lw_okq (⟨"VaseCourtModel", "name", "()I"⟩, 61) := ⟨⟨by decide +kernel, by decide +kernel⟩, List.mem_of_getElem? (i := 1051) (by decide +kernel), List.mem_of_getElem? (i := 1418) (by decide +kernel), List.mem_of_getElem? (i := 1419) (by decide +kernel)⟩
theorem lw_p62 : lw_okq (⟨"VaseCourtModel", "theLaw", "(II)I"⟩, 61) := ⟨⟨by decide +kernel, by decide +kernel⟩, List.mem_of_getElem? (i := 1051) (by decide +kernel), List.mem_of_getElem? (i := 1441) (by decide +kernel), List.mem_of_getElem? (i := 1442) (by decide +kernel)⟩
theorem lw_p63 : lw_okq (⟨"VaseCourtModel", "give", "()V"⟩, 61) := ⟨⟨by decide +kernel, by decide +kernel⟩, List.mem_of_getElem? (i := 1051) (by decide +kernel), List.mem_of_getElem? (i := 1453) (by decide +kernel), List.mem_of_getElem? (i := 1454) (by decide +kernel)⟩
def lw_privs_4 : List (MethodName × Nat) := [(⟨"VaseCourtModel", "next", "()V"⟩, 61), (⟨"VaseCourtModel", "byteAt", "(I)I"⟩, 61), (⟨"VaseCourtModel", "part", "(J)I"⟩, 61), (⟨"VaseCourtModel", "isWord", "(J)Z"⟩, 61), (⟨"VaseCourtModel", "fail", "()V"⟩, 61), (⟨"VaseCourtModel", "either", "()I"⟩, 61), (⟨"VaseCourtModel", "both", "()I"⟩, 61), (⟨"VaseCourtModel", "not", "()I"⟩, 61), (⟨"VaseCourtModel", "opens", "()Z"⟩, 61), (⟨"VaseCourtModel", "added", "()I"⟩, 61), (⟨"VaseCourtModel", "term", "()I"⟩, 61), (⟨"VaseCourtModel", "one", "()I"⟩, 61), (⟨"VaseCourtModel", "isSign", "(I)Z"⟩, 61), (⟨"VaseCourtModel", "name", "()I"⟩, 61), (⟨"VaseCourtModel", "theLaw", "(II)I"⟩, 61), (⟨"VaseCourtModel", "give", "()V"⟩, 61)]
theorem lw_r4 : ∀ q ∈ lw_privs_4, lw_okq q := List.forall_mem_cons.mpr ⟨lw_p48, List.forall_mem_cons.mpr ⟨lw_p49, List.forall_mem_cons.mpr ⟨lw_p50, List.forall_mem_cons.mpr ⟨lw_p51, List.forall_mem_cons.mpr ⟨lw_p52, List.forall_mem_cons.mpr ⟨lw_p53, List.forall_mem_cons.mpr ⟨lw_p54, List.forall_mem_cons.mpr ⟨lw_p55, List.forall_mem_cons.mpr ⟨lw_p56, List.forall_mem_cons.mpr ⟨lw_p57, List.forall_mem_cons.mpr ⟨lw_p58, List.forall_mem_cons.mpr ⟨lw_p59, List.forall_mem_cons.mpr ⟨lw_p60, List.forall_mem_cons.mpr ⟨lw_p61, List.forall_mem_cons.mpr ⟨lw_p62, List.forall_mem_cons.mpr ⟨lw_p63, fun _ h => absurd h List.not_mem_nil⟩⟩⟩⟩⟩⟩⟩⟩⟩⟩⟩⟩⟩⟩⟩⟩
theorem lw_p64 : lw_okq (⟨"VaseCourtModel", "judgeSteps", "()V"⟩, 61) := ⟨⟨by decide +kernel, by decide +kernel⟩, List.mem_of_getElem? (i := 1051) (by decide +kernel), List.mem_of_getElem? (i := 1457) (by decide +kernel), List.mem_of_getElem? (i := 1458) (by decide +kernel)⟩
theorem lw_p65 : lw_okq (⟨"VaseCourtModel", "pairUp", "()V"⟩, 61) := ⟨⟨by decide +kernel, by decide +kernel⟩, List.mem_of_getElem? (i := 1051) (by decide +kernel), List.mem_of_getElem? (i := 1492) (by decide +kernel), List.mem_of_getElem? (i := 1493) (by decide +kernel)⟩
theorem lw_p66 : lw_okq (⟨"VaseCourtModel", "ofTwo", "(IJ)J"⟩, 61) := ⟨⟨by decide +kernel, by decide +kernel⟩, List.mem_of_getElem? (i := 1051) (by decide +kernel), List.mem_of_getElem? (i := 1496) (by decide +kernel), List.mem_of_getElem? (i := 1497) (by decide +kernel)⟩
theorem lw_p67 : lw_okq (⟨"VaseCourtModel", "leastAmong", "(IZJ)J"⟩, 61) := ⟨⟨by decide +kernel, by decide +kernel⟩, List.mem_of_getElem? (i := 1051) (by decide +kernel), List.mem_of_getElem? (i := 1500) (by decide +kernel), List.mem_of_getElem? (i := 1501) (by decide +kernel)⟩
theorem lw_p68 : lw_okq (⟨"VaseCourtModel", "isJoined", "(II)Z"⟩, 61) := ⟨⟨by decide +kernel, by decide +kernel⟩, List.mem_of_getElem? (i := 1051) (by decide +kernel), List.mem_of_getElem? (i := 1520) (by decide +kernel), List.mem_of_getElem? (i := 1521) (by decide +kernel)⟩
theorem lw_p69 : lw_okq (⟨"VaseCourtModel", "findRow", "()V"⟩, 61) := ⟨⟨by decide +kernel, by decide +kernel⟩, List.mem_of_getElem? (i := 1051) (by decide +kernel), List.mem_of_getElem? (i := 1528) (by decide +kernel), List.mem_of_getElem? (i := 1529) (by decide +kernel)⟩
theorem lw_p70 : lw_okq (⟨"VaseCourtModel", "findThings", "()V"⟩, 61) := ⟨⟨by decide +kernel, by decide +kernel⟩, List.mem_of_getElem? (i := 1051) (by decide +kernel), List.mem_of_getElem? (i := 1540) (by decide +kernel), List.mem_of_getElem? (i := 1541) (by decide +kernel)⟩
theorem lw_p71 : lw_okq (⟨"VaseCourtModel", "match", "(II)Z"⟩, 61) := ⟨⟨by decide +kernel, by decide +kernel⟩, List.mem_of_getElem? (i := 1051) (by decide +kernel), List.mem_of_getElem? (i := 1544) (by decide +kernel), List.mem_of_getElem? (i := 1545) (by decide +kernel)⟩
theorem lw_p72 : lw_okq (⟨"VaseCourtModel", "areAtOdds", "(II)Z"⟩, 61) := ⟨⟨by decide +kernel, by decide +kernel⟩, List.mem_of_getElem? (i := 1051) (by decide +kernel), List.mem_of_getElem? (i := 1548) (by decide +kernel), List.mem_of_getElem? (i := 1549) (by decide +kernel)⟩
theorem lw_p73 : lw_okq (⟨"VaseCourtModel", "hasCopy", "(I)Z"⟩, 61) := ⟨⟨by decide +kernel, by decide +kernel⟩, List.mem_of_getElem? (i := 1051) (by decide +kernel), List.mem_of_getElem? (i := 1556) (by decide +kernel), List.mem_of_getElem? (i := 1557) (by decide +kernel)⟩
def lw_privs_5 : List (MethodName × Nat) := [(⟨"VaseCourtModel", "judgeSteps", "()V"⟩, 61), (⟨"VaseCourtModel", "pairUp", "()V"⟩, 61), (⟨"VaseCourtModel", "ofTwo", "(IJ)J"⟩, 61), (⟨"VaseCourtModel", "leastAmong", "(IZJ)J"⟩, 61), (⟨"VaseCourtModel", "isJoined", "(II)Z"⟩, 61), (⟨"VaseCourtModel", "findRow", "()V"⟩, 61), (⟨"VaseCourtModel", "findThings", "()V"⟩, 61), (⟨"VaseCourtModel", "match", "(II)Z"⟩, 61), (⟨"VaseCourtModel", "areAtOdds", "(II)Z"⟩, 61), (⟨"VaseCourtModel", "hasCopy", "(I)Z"⟩, 61)]
theorem lw_r5 : ∀ q ∈ lw_privs_5, lw_okq q := List.forall_mem_cons.mpr ⟨lw_p64, List.forall_mem_cons.mpr ⟨lw_p65, List.forall_mem_cons.mpr ⟨lw_p66, List.forall_mem_cons.mpr ⟨lw_p67, List.forall_mem_cons.mpr ⟨lw_p68, List.forall_mem_cons.mpr ⟨lw_p69, List.forall_mem_cons.mpr ⟨lw_p70, List.forall_mem_cons.mpr ⟨lw_p71, List.forall_mem_cons.mpr ⟨lw_p72, List.forall_mem_cons.mpr ⟨lw_p73, fun _ h => absurd h List.not_mem_nil⟩⟩⟩⟩⟩⟩⟩⟩⟩⟩
def lw_privs : List (MethodName × Nat) := lw_privs_1 ++ (lw_privs_2 ++ (lw_privs_3 ++ (lw_privs_4 ++ (lw_privs_5))))
def lw_tbl : List Cond := k2_sels lw_privs ++ tables_1
theorem lw_privs_ok : ∀ q ∈ lw_privs, lw_okq q := by
  show ∀ q ∈ lw_privs_1 ++ (lw_privs_2 ++ (lw_privs_3 ++ (lw_privs_4 ++ (lw_privs_5)))), lw_okq q
  exact List.forall_mem_append.mpr ⟨lw_r1, List.forall_mem_append.mpr ⟨lw_r2, List.forall_mem_append.mpr ⟨lw_r3, List.forall_mem_append.mpr ⟨lw_r4, lw_r5⟩⟩⟩⟩
def RX0 : String := "VaseCourt$Bench"
def TX0 : u_T := fun k => match k with
  | 0 => ("VaseCourt$Bench", "size", "I", false)
  | 1 => ("VaseCourt$Bench", "kept", "[J", true)
  | 2 => ("VaseCourt$Bench", "back", "[J", true)
  | 3 => ("VaseCourt$Bench", "untouched", "[J", true)
  | 4 => ("VaseCourt$Bench", "periods", "I", true)
  | 5 => ("VaseCourt$Bench", "chronicle", "LVaseCourt$Chronicle;", true)
  | 6 => ("VaseCourt$Bench", "ways", "LVaseCourt$Ways;", true)
  | _ => ("VaseCourt$Bench", "book", "LVaseCourt$LawBook;", true)
def tyX0 : Nat → FieldType := fun k => match k with
  | 0 => .int
  | 1 => .array .long
  | 2 => .array .long
  | 3 => .array .long
  | 4 => .int
  | 5 => .object "VaseCourt$Chronicle"
  | 6 => .object "VaseCourt$Ways"
  | _ => .object "VaseCourt$LawBook"
theorem nmX0 : ∀ a, a < 8 → ∀ b, b < 8 → a ≠ b → (TX0 a).2.1 ≠ (TX0 b).2.1 := by decide +kernel
theorem tyX0_ok : ∀ k, k < 8 → parseFieldDescriptor (TX0 k).2.2.1 = some (tyX0 k) := by decide +kernel
abbrev cX0_init : ByteArray := prog_2_method_1_code
def yX0_init : MethodName := ⟨RX0, "<init>", "(ILVaseCourt$Chronicle;LVaseCourt$Ways;LVaseCourt$LawBook;)V"⟩
abbrev cX0_givenTo : ByteArray := prog_2_method_2_code
def yX0_givenTo : MethodName := ⟨RX0, "givenTo", "(I)J"⟩
abbrev cX0_claimsOf : ByteArray := prog_2_method_3_code
def yX0_claimsOf : MethodName := ⟨RX0, "claimsOf", "(I)J"⟩
abbrev cX0_has : ByteArray := prog_2_method_4_code
def yX0_has : MethodName := ⟨RX0, "has", "(I)Z"⟩
abbrev cX0_keep : ByteArray := prog_2_method_5_code
def yX0_keep : MethodName := ⟨RX0, "keep", "()I"⟩
abbrev cX0_keptFor : ByteArray := prog_2_method_6_code
def yX0_keptFor : MethodName := ⟨RX0, "keptFor", "(II)J"⟩
abbrev cX0_changedLands : ByteArray := prog_2_method_7_code
def yX0_changedLands : MethodName := ⟨RX0, "changedLands", "(I)I"⟩
abbrev cX0_giveBack : ByteArray := prog_2_method_8_code
def yX0_giveBack : MethodName := ⟨RX0, "giveBack", "(I)V"⟩
abbrev cX0_goOn : ByteArray := prog_2_method_9_code
def yX0_goOn : MethodName := ⟨RX0, "goOn", "(III)V"⟩
def RX1 : String := "VaseCourt$Chronicle"
def TX1 : u_T := fun k => match k with
  | 0 => ("VaseCourt$Chronicle", "soilLands", "I", false)
  | 1 => ("VaseCourt$Chronicle", "beginnings", "[J", true)
  | 2 => ("VaseCourt$Chronicle", "ends", "[J", true)
  | 3 => ("VaseCourt$Chronicle", "with", "[J", true)
  | 4 => ("VaseCourt$Chronicle", "periods", "I", true)
  | 5 => ("VaseCourt$Chronicle", "ways", "LVaseCourt$Ways;", true)
  | _ => ("VaseCourt$Chronicle", "file", "LVaseCourt$PaperFile;", true)
def tyX1 : Nat → FieldType := fun k => match k with
  | 0 => .int
  | 1 => .array .long
  | 2 => .array .long
  | 3 => .array .long
  | 4 => .int
  | 5 => .object "VaseCourt$Ways"
  | _ => .object "VaseCourt$PaperFile"
theorem nmX1 : ∀ a, a < 7 → ∀ b, b < 7 → a ≠ b → (TX1 a).2.1 ≠ (TX1 b).2.1 := by decide +kernel
theorem tyX1_ok : ∀ k, k < 7 → parseFieldDescriptor (TX1 k).2.2.1 = some (tyX1 k) := by decide +kernel
abbrev cX1_init : ByteArray := prog_3_method_1_code
def yX1_init : MethodName := ⟨RX1, "<init>", "(ILVaseCourt$Ways;LVaseCourt$PaperFile;)V"⟩
abbrev cX1_recount : ByteArray := prog_3_method_2_code
def yX1_recount : MethodName := ⟨RX1, "recount", "()V"⟩
abbrev cX1_beginningsTo : ByteArray := prog_3_method_3_code
def yX1_beginningsTo : MethodName := ⟨RX1, "beginningsTo", "(II)J"⟩
abbrev cX1_endsFrom : ByteArray := prog_3_method_4_code
def yX1_endsFrom : MethodName := ⟨RX1, "endsFrom", "(II)J"⟩
abbrev cX1_sumBefore : ByteArray := prog_3_method_5_code
def yX1_sumBefore : MethodName := ⟨RX1, "sumBefore", "([JII)J"⟩
abbrev cX1_sumBehind : ByteArray := prog_3_method_6_code
def yX1_sumBehind : MethodName := ⟨RX1, "sumBehind", "([JII)J"⟩
abbrev cX1_total : ByteArray := prog_3_method_7_code
def yX1_total : MethodName := ⟨RX1, "total", "()J"⟩
abbrev cX1_through : ByteArray := prog_3_method_8_code
def yX1_through : MethodName := ⟨RX1, "through", "(I)J"⟩
abbrev cX1_countWith : ByteArray := prog_3_method_9_code
def yX1_countWith : MethodName := ⟨RX1, "countWith", "(II)V"⟩
abbrev cX1_landOf : ByteArray := prog_3_method_10_code
def yX1_landOf : MethodName := ⟨RX1, "landOf", "(II)I"⟩
abbrev cX1_goingTo : ByteArray := prog_3_method_11_code
def yX1_goingTo : MethodName := ⟨RX1, "goingTo", "(III)J"⟩
def RX2 : String := "VaseCourt$Inquiry"
def TX2 : u_T := fun k => match k with
  | 0 => ("VaseCourt$Inquiry", "periods", "I", true)
  | _ => ("VaseCourt$Inquiry", "chronicle", "LVaseCourt$Chronicle;", true)
def tyX2 : Nat → FieldType := fun k => match k with
  | 0 => .int
  | _ => .object "VaseCourt$Chronicle"
theorem nmX2 : ∀ a, a < 2 → ∀ b, b < 2 → a ≠ b → (TX2 a).2.1 ≠ (TX2 b).2.1 := by decide +kernel
theorem tyX2_ok : ∀ k, k < 2 → parseFieldDescriptor (TX2 k).2.2.1 = some (tyX2 k) := by decide +kernel
abbrev cX2_init : ByteArray := prog_4_method_1_code
def yX2_init : MethodName := ⟨RX2, "<init>", "(ILVaseCourt$Chronicle;)V"⟩
abbrev cX2_worstOf : ByteArray := prog_4_method_2_code
def yX2_worstOf : MethodName := ⟨RX2, "worstOf", "(I)J"⟩
abbrev cX2_best : ByteArray := prog_4_method_3_code
def yX2_best : MethodName := ⟨RX2, "best", "()I"⟩
abbrev cX2_worstWithNext : ByteArray := prog_4_method_4_code
def yX2_worstWithNext : MethodName := ⟨RX2, "worstWithNext", "(II)J"⟩
abbrev cX2_bestWithNext : ByteArray := prog_4_method_5_code
def yX2_bestWithNext : MethodName := ⟨RX2, "bestWithNext", "()I"⟩
abbrev cX2_told : ByteArray := prog_4_method_6_code
def yX2_told : MethodName := ⟨RX2, "told", "(I)I"⟩
def RX3 : String := "VaseCourt$LawBook"
def TX3 : u_T := fun k => match k with
  | 0 => ("VaseCourt$LawBook", "size", "I", false)
  | 1 => ("VaseCourt$LawBook", "textCount", "I", false)
  | 2 => ("VaseCourt$LawBook", "texts", "[LVaseCourt$Text;", true)
  | 3 => ("VaseCourt$LawBook", "lands", "[I", true)
  | 4 => ("VaseCourt$LawBook", "firsts", "[I", true)
  | 5 => ("VaseCourt$LawBook", "numbers", "[I", true)
  | 6 => ("VaseCourt$LawBook", "stack", "[I", true)
  | 7 => ("VaseCourt$LawBook", "named", "[I", true)
  | 8 => ("VaseCourt$LawBook", "now", "I", true)
  | 9 => ("VaseCourt$LawBook", "ways", "LVaseCourt$Ways;", true)
  | _ => ("VaseCourt$LawBook", "file", "LVaseCourt$PaperFile;", true)
def tyX3 : Nat → FieldType := fun k => match k with
  | 0 => .int
  | 1 => .int
  | 2 => .array (.object "VaseCourt$Text")
  | 3 => .array .int
  | 4 => .array .int
  | 5 => .array .int
  | 6 => .array .int
  | 7 => .array .int
  | 8 => .int
  | 9 => .object "VaseCourt$Ways"
  | _ => .object "VaseCourt$PaperFile"
theorem nmX3 : ∀ a, a < 11 → ∀ b, b < 11 → a ≠ b → (TX3 a).2.1 ≠ (TX3 b).2.1 := by decide +kernel
theorem tyX3_ok : ∀ k, k < 11 → parseFieldDescriptor (TX3 k).2.2.1 = some (tyX3 k) := by decide +kernel
abbrev cX3_init : ByteArray := prog_5_method_1_code
def yX3_init : MethodName := ⟨RX3, "<init>", "(ILVaseCourt$Ways;LVaseCourt$PaperFile;)V"⟩
abbrev cX3_addText : ByteArray := prog_5_method_2_code
def yX3_addText : MethodName := ⟨RX3, "addText", "([II)I"⟩
abbrev cX3_add : ByteArray := prog_5_method_3_code
def yX3_add : MethodName := ⟨RX3, "add", "(III)I"⟩
abbrev cX3_textFor : ByteArray := prog_5_method_4_code
def yX3_textFor : MethodName := ⟨RX3, "textFor", "(II)I"⟩
abbrev cX3_hold : ByteArray := prog_5_method_5_code
def yX3_hold : MethodName := ⟨RX3, "hold", "(III)I"⟩
abbrev cX3_limit : ByteArray := prog_5_method_6_code
def yX3_limit : MethodName := ⟨RX3, "limit", "(III)I"⟩
abbrev cX3_givesBack : ByteArray := prog_5_method_7_code
def yX3_givesBack : MethodName := ⟨RX3, "givesBack", "(III)Z"⟩
abbrev cX3_look : ByteArray := prog_5_method_8_code
def yX3_look : MethodName := ⟨RX3, "look", "(III)LVaseCourt$Text;"⟩
abbrev cX3_name : ByteArray := prog_5_method_9_code
def yX3_name : MethodName := ⟨RX3, "name", "(II)V"⟩
abbrev cX3_valueOf : ByteArray := prog_5_method_10_code
def yX3_valueOf : MethodName := ⟨RX3, "valueOf", "([III)I"⟩
abbrev cX3_ofOne : ByteArray := prog_5_method_11_code
def yX3_ofOne : MethodName := ⟨RX3, "ofOne", "(II)I"⟩
abbrev cX3_ofTwo : ByteArray := prog_5_method_12_code
def yX3_ofTwo : MethodName := ⟨RX3, "ofTwo", "(III)I"⟩
def RX4 : String := "VaseCourt$PaperFile"
def TX4 : u_T := fun k => match k with
  | 0 => ("VaseCourt$PaperFile", "size", "I", false)
  | 1 => ("VaseCourt$PaperFile", "forged", "I", false)
  | 2 => ("VaseCourt$PaperFile", "standing", "I", false)
  | 3 => ("VaseCourt$PaperFile", "kind", "[I", true)
  | 4 => ("VaseCourt$PaperFile", "a", "[I", true)
  | 5 => ("VaseCourt$PaperFile", "b", "[I", true)
  | 6 => ("VaseCourt$PaperFile", "period", "[I", true)
  | _ => ("VaseCourt$PaperFile", "leans", "[I", true)
def tyX4 : Nat → FieldType := fun k => match k with
  | 0 => .int
  | 1 => .int
  | 2 => .int
  | 3 => .array .int
  | 4 => .array .int
  | 5 => .array .int
  | 6 => .array .int
  | _ => .array .int
theorem nmX4 : ∀ a, a < 8 → ∀ b, b < 8 → a ≠ b → (TX4 a).2.1 ≠ (TX4 b).2.1 := by decide +kernel
theorem tyX4_ok : ∀ k, k < 8 → parseFieldDescriptor (TX4 k).2.2.1 = some (tyX4 k) := by decide +kernel
abbrev cX4_init : ByteArray := prog_6_method_1_code
def yX4_init : MethodName := ⟨RX4, "<init>", "()V"⟩
abbrev cX4_has : ByteArray := prog_6_method_2_code
def yX4_has : MethodName := ⟨RX4, "has", "(I)Z"⟩
abbrev cX4_hasAll : ByteArray := prog_6_method_3_code
def yX4_hasAll : MethodName := ⟨RX4, "hasAll", "(I)Z"⟩
abbrev cX4_add : ByteArray := prog_6_method_4_code
def yX4_add : MethodName := ⟨RX4, "add", "(IIIII)I"⟩
abbrev cX4_markForged : ByteArray := prog_6_method_5_code
def yX4_markForged : MethodName := ⟨RX4, "markForged", "(IZ)V"⟩
abbrev cX4_standingCount : ByteArray := prog_6_method_6_code
def yX4_standingCount : MethodName := ⟨RX4, "standingCount", "()I"⟩
abbrev cX4_fallingWith : ByteArray := prog_6_method_7_code
def yX4_fallingWith : MethodName := ⟨RX4, "fallingWith", "(I)I"⟩
abbrev cX4_standingWithout : ByteArray := prog_6_method_8_code
def yX4_standingWithout : MethodName := ⟨RX4, "standingWithout", "(I)I"⟩
abbrev cX4_allowedLands : ByteArray := prog_6_method_9_code
def yX4_allowedLands : MethodName := ⟨RX4, "allowedLands", "(I)I"⟩
abbrev cX4_landsByPaper : ByteArray := prog_6_method_10_code
def yX4_landsByPaper : MethodName := ⟨RX4, "landsByPaper", "(II)I"⟩
abbrev cX4_landsByKind : ByteArray := prog_6_method_11_code
def yX4_landsByKind : MethodName := ⟨RX4, "landsByKind", "(III)I"⟩
abbrev cX4_isUnder : ByteArray := prog_6_method_12_code
def yX4_isUnder : MethodName := ⟨RX4, "isUnder", "(II)Z"⟩
def RX5 : String := "VaseCourt$Reader"
def TX5 : u_T := fun k => match k with
  | 0 => ("VaseCourt$Reader", "size", "I", false)
  | 1 => ("VaseCourt$Reader", "split", "I", false)
  | 2 => ("VaseCourt$Reader", "tape", "[B", true)
  | 3 => ("VaseCourt$Reader", "code", "[I", true)
  | 4 => ("VaseCourt$Reader", "length", "I", false)
  | 5 => ("VaseCourt$Reader", "token", "I", false)
  | 6 => ("VaseCourt$Reader", "tokenStart", "I", false)
  | 7 => ("VaseCourt$Reader", "tokenEnd", "I", false)
  | _ => ("VaseCourt$Reader", "number", "I", false)
def tyX5 : Nat → FieldType := fun k => match k with
  | 0 => .int
  | 1 => .int
  | 2 => .array .byte
  | 3 => .array .int
  | 4 => .int
  | 5 => .int
  | 6 => .int
  | 7 => .int
  | _ => .int
theorem nmX5 : ∀ a, a < 9 → ∀ b, b < 9 → a ≠ b → (TX5 a).2.1 ≠ (TX5 b).2.1 := by decide +kernel
theorem tyX5_ok : ∀ k, k < 9 → parseFieldDescriptor (TX5 k).2.2.1 = some (tyX5 k) := by decide +kernel
abbrev cX5_init : ByteArray := prog_7_method_1_code
def yX5_init : MethodName := ⟨RX5, "<init>", "()V"⟩
abbrev cX5_take : ByteArray := prog_7_method_2_code
def yX5_take : MethodName := ⟨RX5, "take", "(IJ)I"⟩
abbrev cX5_codeRead : ByteArray := prog_7_method_3_code
def yX5_codeRead : MethodName := ⟨RX5, "codeRead", "()[I"⟩
abbrev cX5_readText : ByteArray := prog_7_method_4_code
def yX5_readText : MethodName := ⟨RX5, "readText", "()I"⟩
abbrev cX5_readPart : ByteArray := prog_7_method_5_code
def yX5_readPart : MethodName := ⟨RX5, "readPart", "(I)Z"⟩
abbrev cX5_readOr : ByteArray := prog_7_method_6_code
def yX5_readOr : MethodName := ⟨RX5, "readOr", "(I)Z"⟩
abbrev cX5_readAnd : ByteArray := prog_7_method_7_code
def yX5_readAnd : MethodName := ⟨RX5, "readAnd", "(I)Z"⟩
abbrev cX5_readNot : ByteArray := prog_7_method_8_code
def yX5_readNot : MethodName := ⟨RX5, "readNot", "(I)Z"⟩
abbrev cX5_readSum : ByteArray := prog_7_method_9_code
def yX5_readSum : MethodName := ⟨RX5, "readSum", "(I)Z"⟩
abbrev cX5_readTerm : ByteArray := prog_7_method_10_code
def yX5_readTerm : MethodName := ⟨RX5, "readTerm", "(I)Z"⟩
abbrev cX5_readOne : ByteArray := prog_7_method_11_code
def yX5_readOne : MethodName := ⟨RX5, "readOne", "(I)Z"⟩
abbrev cX5_pass : ByteArray := prog_7_method_12_code
def yX5_pass : MethodName := ⟨RX5, "pass", "(I)Z"⟩
abbrev cX5_write : ByteArray := prog_7_method_13_code
def yX5_write : MethodName := ⟨RX5, "write", "(I)Z"⟩
abbrev cX5_advance : ByteArray := prog_7_method_14_code
def yX5_advance : MethodName := ⟨RX5, "advance", "()V"⟩
abbrev cX5_readWord : ByteArray := prog_7_method_15_code
def yX5_readWord : MethodName := ⟨RX5, "readWord", "()I"⟩
abbrev cX5_spells : ByteArray := prog_7_method_16_code
def yX5_spells : MethodName := ⟨RX5, "spells", "(Ljava/lang/String;)Z"⟩
abbrev cX5_readNumber : ByteArray := prog_7_method_17_code
def yX5_readNumber : MethodName := ⟨RX5, "readNumber", "()I"⟩
abbrev cX5_readSign : ByteArray := prog_7_method_18_code
def yX5_readSign : MethodName := ⟨RX5, "readSign", "()I"⟩
abbrev cX5_isLetter : ByteArray := prog_7_method_19_code
def yX5_isLetter : MethodName := ⟨RX5, "isLetter", "(I)Z"⟩
abbrev cX5_isFigure : ByteArray := prog_7_method_20_code
def yX5_isFigure : MethodName := ⟨RX5, "isFigure", "(I)Z"⟩
def RX6 : String := "VaseCourt$Records"
def TX6 : u_T := fun k => match k with
  | 0 => ("VaseCourt$Records", "size", "I", false)
  | 1 => ("VaseCourt$Records", "enough", "I", false)
  | 2 => ("VaseCourt$Records", "marks", "[I", true)
  | _ => ("VaseCourt$Records", "known", "[I", true)
def tyX6 : Nat → FieldType := fun k => match k with
  | 0 => .int
  | 1 => .int
  | 2 => .array .int
  | _ => .array .int
theorem nmX6 : ∀ a, a < 4 → ∀ b, b < 4 → a ≠ b → (TX6 a).2.1 ≠ (TX6 b).2.1 := by decide +kernel
theorem tyX6_ok : ∀ k, k < 4 → parseFieldDescriptor (TX6 k).2.2.1 = some (tyX6 k) := by decide +kernel
abbrev cX6_init : ByteArray := prog_8_method_1_code
def yX6_init : MethodName := ⟨RX6, "<init>", "()V"⟩
abbrev cX6_isMarks : ByteArray := prog_8_method_2_code
def yX6_isMarks : MethodName := ⟨RX6, "isMarks", "(I)Z"⟩
abbrev cX6_has : ByteArray := prog_8_method_3_code
def yX6_has : MethodName := ⟨RX6, "has", "(I)Z"⟩
abbrev cX6_add : ByteArray := prog_8_method_4_code
def yX6_add : MethodName := ⟨RX6, "add", "(II)I"⟩
abbrev cX6_atOdds : ByteArray := prog_8_method_5_code
def yX6_atOdds : MethodName := ⟨RX6, "atOdds", "(II)Z"⟩
abbrev cX6_match : ByteArray := prog_8_method_6_code
def yX6_match : MethodName := ⟨RX6, "match", "(II)Z"⟩
abbrev cX6_thingOf : ByteArray := prog_8_method_7_code
def yX6_thingOf : MethodName := ⟨RX6, "thingOf", "(I)I"⟩
abbrev cX6_matchesOneOf : ByteArray := prog_8_method_8_code
def yX6_matchesOneOf : MethodName := ⟨RX6, "matchesOneOf", "(II)Z"⟩
abbrev cX6_countThings : ByteArray := prog_8_method_9_code
def yX6_countThings : MethodName := ⟨RX6, "countThings", "(Z)I"⟩
abbrev cX6_tellsCopy : ByteArray := prog_8_method_10_code
def yX6_tellsCopy : MethodName := ⟨RX6, "tellsCopy", "(I)Z"⟩
def RX7 : String := "VaseCourt$Sheets"
def TX7 : u_T := fun k => match k with
  | 0 => ("VaseCourt$Sheets", "sort", "[I", true)
  | 1 => ("VaseCourt$Sheets", "sizes", "[I", true)
  | _ => ("VaseCourt$Sheets", "items", "[I", true)
def tyX7 : Nat → FieldType := fun k => match k with
  | 0 => .array .int
  | 1 => .array .int
  | _ => .array .int
theorem nmX7 : ∀ a, a < 3 → ∀ b, b < 3 → a ≠ b → (TX7 a).2.1 ≠ (TX7 b).2.1 := by decide +kernel
theorem tyX7_ok : ∀ k, k < 3 → parseFieldDescriptor (TX7 k).2.2.1 = some (tyX7 k) := by decide +kernel
abbrev cX7_init : ByteArray := prog_9_method_1_code
def yX7_init : MethodName := ⟨RX7, "<init>", "()V"⟩
abbrev cX7_isSheet : ByteArray := prog_9_method_2_code
def yX7_isSheet : MethodName := ⟨RX7, "isSheet", "(I)Z"⟩
abbrev cX7_isSort : ByteArray := prog_9_method_3_code
def yX7_isSort : MethodName := ⟨RX7, "isSort", "(I)Z"⟩
abbrev cX7_isMissing : ByteArray := prog_9_method_4_code
def yX7_isMissing : MethodName := ⟨RX7, "isMissing", "(I)Z"⟩
abbrev cX7_lose : ByteArray := prog_9_method_5_code
def yX7_lose : MethodName := ⟨RX7, "lose", "(I)I"⟩
abbrev cX7_lay : ByteArray := prog_9_method_6_code
def yX7_lay : MethodName := ⟨RX7, "lay", "(III)I"⟩
abbrev cX7_holds : ByteArray := prog_9_method_7_code
def yX7_holds : MethodName := ⟨RX7, "holds", "(III)Z"⟩
abbrev cX7_write : ByteArray := prog_9_method_8_code
def yX7_write : MethodName := ⟨RX7, "write", "(III)I"⟩
abbrev cX7_read : ByteArray := prog_9_method_9_code
def yX7_read : MethodName := ⟨RX7, "read", "(II)I"⟩
abbrev cX7_move : ByteArray := prog_9_method_10_code
def yX7_move : MethodName := ⟨RX7, "move", "(IIIII)I"⟩
abbrev cX7_cut : ByteArray := prog_9_method_11_code
def yX7_cut : MethodName := ⟨RX7, "cut", "(II)I"⟩
def RX8 : String := "VaseCourt$Sherds"
def TX8 : u_T := fun k => match k with
  | 0 => ("VaseCourt$Sherds", "size", "I", false)
  | 1 => ("VaseCourt$Sherds", "slack", "I", false)
  | 2 => ("VaseCourt$Sherds", "left", "[I", true)
  | 3 => ("VaseCourt$Sherds", "right", "[I", true)
  | 4 => ("VaseCourt$Sherds", "follow", "[I", true)
  | 5 => ("VaseCourt$Sherds", "starts", "[I", true)
  | _ => ("VaseCourt$Sherds", "leastRow", "I", false)
def tyX8 : Nat → FieldType := fun k => match k with
  | 0 => .int
  | 1 => .int
  | 2 => .array .int
  | 3 => .array .int
  | 4 => .array .int
  | 5 => .array .int
  | _ => .int
theorem nmX8 : ∀ a, a < 7 → ∀ b, b < 7 → a ≠ b → (TX8 a).2.1 ≠ (TX8 b).2.1 := by decide +kernel
theorem tyX8_ok : ∀ k, k < 7 → parseFieldDescriptor (TX8 k).2.2.1 = some (tyX8 k) := by decide +kernel
abbrev cX8_init : ByteArray := prog_10_method_1_code
def yX8_init : MethodName := ⟨RX8, "<init>", "()V"⟩
abbrev cX8_isEdge : ByteArray := prog_10_method_2_code
def yX8_isEdge : MethodName := ⟨RX8, "isEdge", "(I)Z"⟩
abbrev cX8_has : ByteArray := prog_10_method_3_code
def yX8_has : MethodName := ⟨RX8, "has", "(I)Z"⟩
abbrev cX8_add : ByteArray := prog_10_method_4_code
def yX8_add : MethodName := ⟨RX8, "add", "(II)I"⟩
abbrev cX8_fits : ByteArray := prog_10_method_5_code
def yX8_fits : MethodName := ⟨RX8, "fits", "(II)Z"⟩
abbrev cX8_inRow : ByteArray := prog_10_method_6_code
def yX8_inRow : MethodName := ⟨RX8, "inRow", "(II)I"⟩
abbrev cX8_findRow : ByteArray := prog_10_method_7_code
def yX8_findRow : MethodName := ⟨RX8, "findRow", "()I"⟩
abbrev cX8_findFollowers : ByteArray := prog_10_method_8_code
def yX8_findFollowers : MethodName := ⟨RX8, "findFollowers", "()V"⟩
abbrev cX8_findStarts : ByteArray := prog_10_method_9_code
def yX8_findStarts : MethodName := ⟨RX8, "findStarts", "()I"⟩
abbrev cX8_leastOf : ByteArray := prog_10_method_10_code
def yX8_leastOf : MethodName := ⟨RX8, "leastOf", "(I)I"⟩
def RX9 : String := "VaseCourt$Text"
def TX9 : u_T := fun k => match k with
  | 0 => ("VaseCourt$Text", "code", "[I", true)
  | _ => ("VaseCourt$Text", "split", "I", true)
def tyX9 : Nat → FieldType := fun k => match k with
  | 0 => .array .int
  | _ => .int
theorem nmX9 : ∀ a, a < 2 → ∀ b, b < 2 → a ≠ b → (TX9 a).2.1 ≠ (TX9 b).2.1 := by decide +kernel
theorem tyX9_ok : ∀ k, k < 2 → parseFieldDescriptor (TX9 k).2.2.1 = some (tyX9 k) := by decide +kernel
abbrev cX9_init : ByteArray := prog_11_method_1_code
def yX9_init : MethodName := ⟨RX9, "<init>", "([II)V"⟩
def RX10 : String := "VaseCourt$Ways"
def TX10 : u_T := fun k => match k with
  | 0 => ("VaseCourt$Ways", "size", "I", false)
  | _ => ("VaseCourt$Ways", "open", "[I", true)
def tyX10 : Nat → FieldType := fun k => match k with
  | 0 => .int
  | _ => .array .int
theorem nmX10 : ∀ a, a < 2 → ∀ b, b < 2 → a ≠ b → (TX10 a).2.1 ≠ (TX10 b).2.1 := by decide +kernel
theorem tyX10_ok : ∀ k, k < 2 → parseFieldDescriptor (TX10 k).2.2.1 = some (tyX10 k) := by decide +kernel
abbrev cX10_init : ByteArray := prog_12_method_1_code
def yX10_init : MethodName := ⟨RX10, "<init>", "()V"⟩
abbrev cX10_add : ByteArray := prog_12_method_2_code
def yX10_add : MethodName := ⟨RX10, "add", "(IIII)I"⟩
abbrev cX10_openFor : ByteArray := prog_12_method_3_code
def yX10_openFor : MethodName := ⟨RX10, "openFor", "(III)I"⟩
abbrev cX10_lead : ByteArray := prog_12_method_4_code
def yX10_lead : MethodName := ⟨RX10, "lead", "(III)Z"⟩
def RX11 : String := "VaseCourt"
def TX11 : u_T := fun k => match k with
  | 0 => ("VaseCourt", "periods", "I", true)
  | 1 => ("VaseCourt", "ways", "LVaseCourt$Ways;", true)
  | 2 => ("VaseCourt", "file", "LVaseCourt$PaperFile;", true)
  | 3 => ("VaseCourt", "chronicle", "LVaseCourt$Chronicle;", true)
  | 4 => ("VaseCourt", "reader", "LVaseCourt$Reader;", true)
  | 5 => ("VaseCourt", "book", "LVaseCourt$LawBook;", true)
  | 6 => ("VaseCourt", "bench", "LVaseCourt$Bench;", true)
  | 7 => ("VaseCourt", "inquiry", "LVaseCourt$Inquiry;", true)
  | 8 => ("VaseCourt", "sherds", "LVaseCourt$Sherds;", true)
  | 9 => ("VaseCourt", "records", "LVaseCourt$Records;", true)
  | _ => ("VaseCourt", "sheets", "LVaseCourt$Sheets;", true)
def tyX11 : Nat → FieldType := fun k => match k with
  | 0 => .int
  | 1 => .object "VaseCourt$Ways"
  | 2 => .object "VaseCourt$PaperFile"
  | 3 => .object "VaseCourt$Chronicle"
  | 4 => .object "VaseCourt$Reader"
  | 5 => .object "VaseCourt$LawBook"
  | 6 => .object "VaseCourt$Bench"
  | 7 => .object "VaseCourt$Inquiry"
  | 8 => .object "VaseCourt$Sherds"
  | 9 => .object "VaseCourt$Records"
  | _ => .object "VaseCourt$Sheets"
theorem nmX11 : ∀ a, a < 11 → ∀ b, b < 11 → a ≠ b → (TX11 a).2.1 ≠ (TX11 b).2.1 := by decide +kernel
theorem tyX11_ok : ∀ k, k < 11 → parseFieldDescriptor (TX11 k).2.2.1 = some (tyX11 k) := by decide +kernel
abbrev cX11_init : ByteArray := prog_1_method_1_code
def yX11_init : MethodName := ⟨RX11, "<init>", "(I)V"⟩
abbrev cX11_way : ByteArray := prog_1_method_2_code
def yX11_way : MethodName := ⟨RX11, "way", "(IIII)I"⟩
abbrev cX11_soil : ByteArray := prog_1_method_3_code
def yX11_soil : MethodName := ⟨RX11, "soil", "(I)I"⟩
abbrev cX11_paper : ByteArray := prog_1_method_4_code
def yX11_paper : MethodName := ⟨RX11, "paper", "(IIIII)I"⟩
abbrev cX11_paperTold : ByteArray := prog_1_method_5_code
def yX11_paperTold : MethodName := ⟨RX11, "paperTold", "(II)I"⟩
abbrev cX11_allows : ByteArray := prog_1_method_6_code
def yX11_allows : MethodName := ⟨RX11, "allows", "(III)I"⟩
abbrev cX11_forge : ByteArray := prog_1_method_7_code
def yX11_forge : MethodName := ⟨RX11, "forge", "(II)I"⟩
abbrev cX11_fall : ByteArray := prog_1_method_8_code
def yX11_fall : MethodName := ⟨RX11, "fall", "(I)I"⟩
abbrev cX11_histories : ByteArray := prog_1_method_9_code
def yX11_histories : MethodName := ⟨RX11, "histories", "()J"⟩
abbrev cX11_at : ByteArray := prog_1_method_10_code
def yX11_at : MethodName := ⟨RX11, "at", "(II)J"⟩
abbrev cX11_both : ByteArray := prog_1_method_11_code
def yX11_both : MethodName := ⟨RX11, "both", "(IIII)J"⟩
abbrev cX11_history : ByteArray := prog_1_method_12_code
def yX11_history : MethodName := ⟨RX11, "history", "(II)I"⟩
abbrev cX11_feed : ByteArray := prog_1_method_13_code
def yX11_feed : MethodName := ⟨RX11, "feed", "(IJ)I"⟩
abbrev cX11_text : ByteArray := prog_1_method_14_code
def yX11_text : MethodName := ⟨RX11, "text", "()I"⟩
abbrev cX11_law : ByteArray := prog_1_method_15_code
def yX11_law : MethodName := ⟨RX11, "law", "(III)I"⟩
abbrev cX11_lawOf : ByteArray := prog_1_method_16_code
def yX11_lawOf : MethodName := ⟨RX11, "lawOf", "(II)I"⟩
abbrev cX11_says : ByteArray := prog_1_method_17_code
def yX11_says : MethodName := ⟨RX11, "says", "(IIII)J"⟩
abbrev cX11_given : ByteArray := prog_1_method_18_code
def yX11_given : MethodName := ⟨RX11, "given", "(I)J"⟩
abbrev cX11_claim : ByteArray := prog_1_method_19_code
def yX11_claim : MethodName := ⟨RX11, "claim", "(I)J"⟩
abbrev cX11_judge : ByteArray := prog_1_method_20_code
def yX11_judge : MethodName := ⟨RX11, "judge", "()I"⟩
abbrev cX11_judged : ByteArray := prog_1_method_21_code
def yX11_judged : MethodName := ⟨RX11, "judged", "(II)J"⟩
abbrev cX11_changed : ByteArray := prog_1_method_22_code
def yX11_changed : MethodName := ⟨RX11, "changed", "(I)I"⟩
abbrev cX11_worst : ByteArray := prog_1_method_23_code
def yX11_worst : MethodName := ⟨RX11, "worst", "(II)J"⟩
abbrev cX11_question : ByteArray := prog_1_method_24_code
def yX11_question : MethodName := ⟨RX11, "question", "()I"⟩
abbrev cX11_worstOfTwo : ByteArray := prog_1_method_25_code
def yX11_worstOfTwo : MethodName := ⟨RX11, "worstOfTwo", "(II)J"⟩
abbrev cX11_firstOfTwo : ByteArray := prog_1_method_26_code
def yX11_firstOfTwo : MethodName := ⟨RX11, "firstOfTwo", "()I"⟩
abbrev cX11_sherd : ByteArray := prog_1_method_27_code
def yX11_sherd : MethodName := ⟨RX11, "sherd", "(II)I"⟩
abbrev cX11_set : ByteArray := prog_1_method_28_code
def yX11_set : MethodName := ⟨RX11, "set", "(II)I"⟩
abbrev cX11_joined : ByteArray := prog_1_method_29_code
def yX11_joined : MethodName := ⟨RX11, "joined", "(II)I"⟩
abbrev cX11_row : ByteArray := prog_1_method_30_code
def yX11_row : MethodName := ⟨RX11, "row", "(I)I"⟩
abbrev cX11_record : ByteArray := prog_1_method_31_code
def yX11_record : MethodName := ⟨RX11, "record", "(II)I"⟩
abbrev cX11_same : ByteArray := prog_1_method_32_code
def yX11_same : MethodName := ⟨RX11, "same", "(III)I"⟩
abbrev cX11_things : ByteArray := prog_1_method_33_code
def yX11_things : MethodName := ⟨RX11, "things", "(I)I"⟩
abbrev cX11_count : ByteArray := prog_1_method_34_code
def yX11_count : MethodName := ⟨RX11, "count", "(I)I"⟩
abbrev cX11_sheet : ByteArray := prog_1_method_35_code
def yX11_sheet : MethodName := ⟨RX11, "sheet", "(III)I"⟩
abbrev cX11_cell : ByteArray := prog_1_method_36_code
def yX11_cell : MethodName := ⟨RX11, "cell", "(III)I"⟩
abbrev cX11_copy : ByteArray := prog_1_method_37_code
def yX11_copy : MethodName := ⟨RX11, "copy", "(IIIII)I"⟩
abbrev cX11_papers : ByteArray := prog_1_method_38_code
def yX11_papers : MethodName := ⟨RX11, "papers", "(IIII)I"⟩
abbrev cX11_taken : ByteArray := prog_1_method_39_code
def yX11_taken : MethodName := ⟨RX11, "taken", "(II)I"⟩
abbrev cX11_giveAll : ByteArray := prog_1_method_40_code
def yX11_giveAll : MethodName := ⟨RX11, "giveAll", "()V"⟩
abbrev cX11_paperFrom : ByteArray := prog_1_method_41_code
def yX11_paperFrom : MethodName := ⟨RX11, "paperFrom", "(II)I"⟩
abbrev cX11_isPeriod : ByteArray := prog_1_method_42_code
def yX11_isPeriod : MethodName := ⟨RX11, "isPeriod", "(I)Z"⟩
abbrev cX11_isMovePeriod : ByteArray := prog_1_method_43_code
def yX11_isMovePeriod : MethodName := ⟨RX11, "isMovePeriod", "(I)Z"⟩
abbrev cX11_isPlace : ByteArray := prog_1_method_44_code
def yX11_isPlace : MethodName := ⟨RX11, "isPlace", "(II)Z"⟩
abbrev cX11_isLand : ByteArray := prog_1_method_45_code
def yX11_isLand : MethodName := ⟨RX11, "isLand", "(I)Z"⟩
abbrev cX11_place : ByteArray := prog_1_method_46_code
def yX11_place : MethodName := ⟨RX11, "place", "(II)I"⟩
abbrev cX11_isIn : ByteArray := prog_1_method_47_code
def yX11_isIn : MethodName := ⟨RX11, "isIn", "(II)Z"⟩
def RX12 : String := "VaseCourtModel"
def TX12 : u_T := fun k => match k with
  | 0 => ("VaseCourtModel", "thrown", "I", false)
  | 1 => ("VaseCourtModel", "t", "I", true)
  | 2 => ("VaseCourtModel", "soilIs", "I", false)
  | 3 => ("VaseCourtModel", "ways", "I", false)
  | 4 => ("VaseCourtModel", "wayA", "[I", true)
  | 5 => ("VaseCourtModel", "wayB", "[I", true)
  | 6 => ("VaseCourtModel", "wayFrom", "[I", true)
  | 7 => ("VaseCourtModel", "wayTo", "[I", true)
  | 8 => ("VaseCourtModel", "papers", "I", false)
  | 9 => ("VaseCourtModel", "kind", "[I", true)
  | 10 => ("VaseCourtModel", "landA", "[I", true)
  | 11 => ("VaseCourtModel", "landB", "[I", true)
  | 12 => ("VaseCourtModel", "period", "[I", true)
  | 13 => ("VaseCourtModel", "leansOn", "[I", true)
  | 14 => ("VaseCourtModel", "forged", "[Z", true)
  | 15 => ("VaseCourtModel", "mayBe", "[Z", true)
  | 16 => ("VaseCourtModel", "goes", "[Z", true)
  | 17 => ("VaseCourtModel", "ahead", "[J", true)
  | 18 => ("VaseCourtModel", "behind", "[J", true)
  | 19 => ("VaseCourtModel", "steps", "[J", true)
  | 20 => ("VaseCourtModel", "pairs", "[J", true)
  | 21 => ("VaseCourtModel", "texts", "[I", true)
  | 22 => ("VaseCourtModel", "textSize", "[I", true)
  | 23 => ("VaseCourtModel", "textCount", "I", false)
  | 24 => ("VaseCourtModel", "tape", "[I", true)
  | 25 => ("VaseCourtModel", "taped", "I", false)
  | 26 => ("VaseCourtModel", "begin", "I", false)
  | 27 => ("VaseCourtModel", "size", "I", false)
  | 28 => ("VaseCourtModel", "token", "I", false)
  | 29 => ("VaseCourtModel", "tokenAt", "I", false)
  | 30 => ("VaseCourtModel", "tokenWorth", "J", false)
  | 31 => ("VaseCourtModel", "here", "I", false)
  | 32 => ("VaseCourtModel", "open", "I", false)
  | 33 => ("VaseCourtModel", "bad", "Z", false)
  | 34 => ("VaseCourtModel", "fault", "I", false)
  | 35 => ("VaseCourtModel", "linkA", "I", false)
  | 36 => ("VaseCourtModel", "linkB", "I", false)
  | 37 => ("VaseCourtModel", "linkP", "I", false)
  | 38 => ("VaseCourtModel", "laws", "I", false)
  | 39 => ("VaseCourtModel", "lawLand", "[I", true)
  | 40 => ("VaseCourtModel", "lawFrom", "[I", true)
  | 41 => ("VaseCourtModel", "lawText", "[I", true)
  | 42 => ("VaseCourtModel", "wrong", "[Z", true)
  | 43 => ("VaseCourtModel", "clean", "[J", true)
  | 44 => ("VaseCourtModel", "gives", "[J", true)
  | 45 => ("VaseCourtModel", "judgements", "I", false)
  | 46 => ("VaseCourtModel", "judgedTo", "[J", true)
  | 47 => ("VaseCourtModel", "sherds", "I", false)
  | 48 => ("VaseCourtModel", "leftEdge", "[I", true)
  | 49 => ("VaseCourtModel", "rightEdge", "[I", true)
  | 50 => ("VaseCourtModel", "slack", "I", false)
  | 51 => ("VaseCourtModel", "enough", "I", false)
  | 52 => ("VaseCourtModel", "comes", "[I", true)
  | 53 => ("VaseCourtModel", "records", "I", false)
  | 54 => ("VaseCourtModel", "marksOf", "[I", true)
  | 55 => ("VaseCourtModel", "knownOf", "[I", true)
  | 56 => ("VaseCourtModel", "thing", "[I", true)
  | 57 => ("VaseCourtModel", "isThere", "[Z", true)
  | 58 => ("VaseCourtModel", "sorts", "[I", true)
  | 59 => ("VaseCourtModel", "sheetSize", "[I", true)
  | _ => ("VaseCourtModel", "items", "[I", true)
def tyX12 : Nat → FieldType := fun k => match k with
  | 0 => .int
  | 1 => .int
  | 2 => .int
  | 3 => .int
  | 4 => .array .int
  | 5 => .array .int
  | 6 => .array .int
  | 7 => .array .int
  | 8 => .int
  | 9 => .array .int
  | 10 => .array .int
  | 11 => .array .int
  | 12 => .array .int
  | 13 => .array .int
  | 14 => .array .boolean
  | 15 => .array .boolean
  | 16 => .array .boolean
  | 17 => .array .long
  | 18 => .array .long
  | 19 => .array .long
  | 20 => .array .long
  | 21 => .array .int
  | 22 => .array .int
  | 23 => .int
  | 24 => .array .int
  | 25 => .int
  | 26 => .int
  | 27 => .int
  | 28 => .int
  | 29 => .int
  | 30 => .long
  | 31 => .int
  | 32 => .int
  | 33 => .boolean
  | 34 => .int
  | 35 => .int
  | 36 => .int
  | 37 => .int
  | 38 => .int
  | 39 => .array .int
  | 40 => .array .int
  | 41 => .array .int
  | 42 => .array .boolean
  | 43 => .array .long
  | 44 => .array .long
  | 45 => .int
  | 46 => .array .long
  | 47 => .int
  | 48 => .array .int
  | 49 => .array .int
  | 50 => .int
  | 51 => .int
  | 52 => .array .int
  | 53 => .int
  | 54 => .array .int
  | 55 => .array .int
  | 56 => .array .int
  | 57 => .array .boolean
  | 58 => .array .int
  | 59 => .array .int
  | _ => .array .int
theorem nmX12 : ∀ a, a < 61 → ∀ b, b < 61 → a ≠ b → (TX12 a).2.1 ≠ (TX12 b).2.1 := by decide +kernel
theorem tyX12_ok : ∀ k, k < 61 → parseFieldDescriptor (TX12 k).2.2.1 = some (tyX12 k) := by decide +kernel
abbrev cX12_in : ByteArray := prog_14_method_2_code
def yX12_in : MethodName := ⟨RX12, "in", "(III)Z"⟩
abbrev cX12_init : ByteArray := prog_14_method_3_code
def yX12_init : MethodName := ⟨RX12, "<init>", "(I)V"⟩
abbrev cX12_spell : ByteArray := prog_14_method_4_code
def yX12_spell : MethodName := ⟨RX12, "spell", "(IJ)V"⟩
abbrev cX12_isLand : ByteArray := prog_14_method_5_code
def yX12_isLand : MethodName := ⟨RX12, "isLand", "(I)Z"⟩
abbrev cX12_isPeriod : ByteArray := prog_14_method_6_code
def yX12_isPeriod : MethodName := ⟨RX12, "isPeriod", "(I)Z"⟩
abbrev cX12_isPlace : ByteArray := prog_14_method_7_code
def yX12_isPlace : MethodName := ⟨RX12, "isPlace", "(II)Z"⟩
abbrev cX12_way : ByteArray := prog_14_method_8_code
def yX12_way : MethodName := ⟨RX12, "way", "(IIII)I"⟩
abbrev cX12_soil : ByteArray := prog_14_method_9_code
def yX12_soil : MethodName := ⟨RX12, "soil", "(I)I"⟩
abbrev cX12_openWays : ByteArray := prog_14_method_10_code
def yX12_openWays : MethodName := ⟨RX12, "openWays", "(III)I"⟩
abbrev cX12_isPaper : ByteArray := prog_14_method_11_code
def yX12_isPaper : MethodName := ⟨RX12, "isPaper", "(I)Z"⟩
abbrev cX12_paper : ByteArray := prog_14_method_12_code
def yX12_paper : MethodName := ⟨RX12, "paper", "(IIIII)I"⟩
abbrev cX12_standing : ByteArray := prog_14_method_13_code
def yX12_standing : MethodName := ⟨RX12, "standing", "(I)I"⟩
abbrev cX12_paperTold : ByteArray := prog_14_method_14_code
def yX12_paperTold : MethodName := ⟨RX12, "paperTold", "(II)I"⟩
abbrev cX12_lets : ByteArray := prog_14_method_15_code
def yX12_lets : MethodName := ⟨RX12, "lets", "(III)Z"⟩
abbrev cX12_allows : ByteArray := prog_14_method_16_code
def yX12_allows : MethodName := ⟨RX12, "allows", "(III)I"⟩
abbrev cX12_bitsOf : ByteArray := prog_14_method_17_code
def yX12_bitsOf : MethodName := ⟨RX12, "bitsOf", "(I)I"⟩
abbrev cX12_forge : ByteArray := prog_14_method_18_code
def yX12_forge : MethodName := ⟨RX12, "forge", "(II)I"⟩
abbrev cX12_fall : ByteArray := prog_14_method_19_code
def yX12_fall : MethodName := ⟨RX12, "fall", "(I)I"⟩
abbrev cX12_layOut : ByteArray := prog_14_method_20_code
def yX12_layOut : MethodName := ⟨RX12, "layOut", "()V"⟩
abbrev cX12_counted : ByteArray := prog_14_method_21_code
def yX12_counted : MethodName := ⟨RX12, "counted", "()J"⟩
abbrev cX12_all : ByteArray := prog_14_method_22_code
def yX12_all : MethodName := ⟨RX12, "all", "()J"⟩
abbrev cX12_through : ByteArray := prog_14_method_23_code
def yX12_through : MethodName := ⟨RX12, "through", "(II)J"⟩
abbrev cX12_histories : ByteArray := prog_14_method_24_code
def yX12_histories : MethodName := ⟨RX12, "histories", "()J"⟩
abbrev cX12_at : ByteArray := prog_14_method_25_code
def yX12_at : MethodName := ⟨RX12, "at", "(II)J"⟩
abbrev cX12_spread : ByteArray := prog_14_method_26_code
def yX12_spread : MethodName := ⟨RX12, "spread", "(II)V"⟩
abbrev cX12_pairUp : ByteArray := prog_14_method_27_code
def yX12_pairUp : MethodName := ⟨RX12, "pairUp", "()V"⟩
abbrev cX12_both : ByteArray := prog_14_method_28_code
def yX12_both : MethodName := ⟨RX12, "both", "(IIII)J"⟩
abbrev cX12_history : ByteArray := prog_14_method_29_code
def yX12_history : MethodName := ⟨RX12, "history", "(II)I"⟩
abbrev cX12_feed : ByteArray := prog_14_method_30_code
def yX12_feed : MethodName := ⟨RX12, "feed", "(IJ)I"⟩
abbrev cX12_byteAt : ByteArray := prog_14_method_31_code
def yX12_byteAt : MethodName := ⟨RX12, "byteAt", "(I)I"⟩
abbrev cX12_next : ByteArray := prog_14_method_32_code
def yX12_next : MethodName := ⟨RX12, "next", "()V"⟩
abbrev cX12_fail : ByteArray := prog_14_method_33_code
def yX12_fail : MethodName := ⟨RX12, "fail", "()V"⟩
abbrev cX12_isWord : ByteArray := prog_14_method_34_code
def yX12_isWord : MethodName := ⟨RX12, "isWord", "(J)Z"⟩
abbrev cX12_isSign : ByteArray := prog_14_method_35_code
def yX12_isSign : MethodName := ⟨RX12, "isSign", "(I)Z"⟩
abbrev cX12_opens : ByteArray := prog_14_method_36_code
def yX12_opens : MethodName := ⟨RX12, "opens", "()Z"⟩
abbrev cX12_name : ByteArray := prog_14_method_37_code
def yX12_name : MethodName := ⟨RX12, "name", "()I"⟩
abbrev cX12_one : ByteArray := prog_14_method_38_code
def yX12_one : MethodName := ⟨RX12, "one", "()I"⟩
abbrev cX12_term : ByteArray := prog_14_method_39_code
def yX12_term : MethodName := ⟨RX12, "term", "()I"⟩
abbrev cX12_added : ByteArray := prog_14_method_40_code
def yX12_added : MethodName := ⟨RX12, "added", "()I"⟩
abbrev cX12_not : ByteArray := prog_14_method_41_code
def yX12_not : MethodName := ⟨RX12, "not", "()I"⟩
abbrev cX12_both_ : ByteArray := prog_14_method_42_code
def yX12_both_ : MethodName := ⟨RX12, "both", "()I"⟩
abbrev cX12_either : ByteArray := prog_14_method_43_code
def yX12_either : MethodName := ⟨RX12, "either", "()I"⟩
abbrev cX12_part : ByteArray := prog_14_method_44_code
def yX12_part : MethodName := ⟨RX12, "part", "(J)I"⟩
abbrev cX12_read : ByteArray := prog_14_method_45_code
def yX12_read : MethodName := ⟨RX12, "read", "(IIIII)I"⟩
abbrev cX12_text : ByteArray := prog_14_method_46_code
def yX12_text : MethodName := ⟨RX12, "text", "()I"⟩
abbrev cX12_law : ByteArray := prog_14_method_47_code
def yX12_law : MethodName := ⟨RX12, "law", "(III)I"⟩
abbrev cX12_theLaw : ByteArray := prog_14_method_48_code
def yX12_theLaw : MethodName := ⟨RX12, "theLaw", "(II)I"⟩
abbrev cX12_lawOf : ByteArray := prog_14_method_49_code
def yX12_lawOf : MethodName := ⟨RX12, "lawOf", "(II)I"⟩
abbrev cX12_says : ByteArray := prog_14_method_50_code
def yX12_says : MethodName := ⟨RX12, "says", "(IIII)J"⟩
abbrev cX12_judgeSteps : ByteArray := prog_14_method_51_code
def yX12_judgeSteps : MethodName := ⟨RX12, "judgeSteps", "()V"⟩
abbrev cX12_give : ByteArray := prog_14_method_52_code
def yX12_give : MethodName := ⟨RX12, "give", "()V"⟩
abbrev cX12_given : ByteArray := prog_14_method_53_code
def yX12_given : MethodName := ⟨RX12, "given", "(I)J"⟩
abbrev cX12_claim : ByteArray := prog_14_method_54_code
def yX12_claim : MethodName := ⟨RX12, "claim", "(I)J"⟩
abbrev cX12_judge : ByteArray := prog_14_method_55_code
def yX12_judge : MethodName := ⟨RX12, "judge", "()I"⟩
abbrev cX12_judged : ByteArray := prog_14_method_56_code
def yX12_judged : MethodName := ⟨RX12, "judged", "(II)J"⟩
abbrev cX12_changed : ByteArray := prog_14_method_57_code
def yX12_changed : MethodName := ⟨RX12, "changed", "(I)I"⟩
abbrev cX12_greater : ByteArray := prog_14_method_58_code
def yX12_greater : MethodName := ⟨RX12, "greater", "(JJ)J"⟩
abbrev cX12_worst : ByteArray := prog_14_method_59_code
def yX12_worst : MethodName := ⟨RX12, "worst", "(II)J"⟩
abbrev cX12_question : ByteArray := prog_14_method_60_code
def yX12_question : MethodName := ⟨RX12, "question", "()I"⟩
abbrev cX12_leastAmong : ByteArray := prog_14_method_61_code
def yX12_leastAmong : MethodName := ⟨RX12, "leastAmong", "(IZJ)J"⟩
abbrev cX12_ofTwo : ByteArray := prog_14_method_62_code
def yX12_ofTwo : MethodName := ⟨RX12, "ofTwo", "(IJ)J"⟩
abbrev cX12_worstOfTwo : ByteArray := prog_14_method_63_code
def yX12_worstOfTwo : MethodName := ⟨RX12, "worstOfTwo", "(II)J"⟩
abbrev cX12_firstOfTwo : ByteArray := prog_14_method_64_code
def yX12_firstOfTwo : MethodName := ⟨RX12, "firstOfTwo", "()I"⟩
abbrev cX12_sherd : ByteArray := prog_14_method_65_code
def yX12_sherd : MethodName := ⟨RX12, "sherd", "(II)I"⟩
abbrev cX12_set : ByteArray := prog_14_method_66_code
def yX12_set : MethodName := ⟨RX12, "set", "(II)I"⟩
abbrev cX12_isJoined : ByteArray := prog_14_method_67_code
def yX12_isJoined : MethodName := ⟨RX12, "isJoined", "(II)Z"⟩
abbrev cX12_joined : ByteArray := prog_14_method_68_code
def yX12_joined : MethodName := ⟨RX12, "joined", "(II)I"⟩
abbrev cX12_findRow : ByteArray := prog_14_method_69_code
def yX12_findRow : MethodName := ⟨RX12, "findRow", "()V"⟩
abbrev cX12_row : ByteArray := prog_14_method_70_code
def yX12_row : MethodName := ⟨RX12, "row", "(I)I"⟩
abbrev cX12_record : ByteArray := prog_14_method_71_code
def yX12_record : MethodName := ⟨RX12, "record", "(II)I"⟩
abbrev cX12_areAtOdds : ByteArray := prog_14_method_72_code
def yX12_areAtOdds : MethodName := ⟨RX12, "areAtOdds", "(II)Z"⟩
abbrev cX12_match : ByteArray := prog_14_method_73_code
def yX12_match : MethodName := ⟨RX12, "match", "(II)Z"⟩
abbrev cX12_findThings : ByteArray := prog_14_method_74_code
def yX12_findThings : MethodName := ⟨RX12, "findThings", "()V"⟩
abbrev cX12_same : ByteArray := prog_14_method_75_code
def yX12_same : MethodName := ⟨RX12, "same", "(III)I"⟩
abbrev cX12_hasCopy : ByteArray := prog_14_method_76_code
def yX12_hasCopy : MethodName := ⟨RX12, "hasCopy", "(I)Z"⟩
abbrev cX12_things : ByteArray := prog_14_method_77_code
def yX12_things : MethodName := ⟨RX12, "things", "(I)I"⟩
abbrev cX12_count : ByteArray := prog_14_method_78_code
def yX12_count : MethodName := ⟨RX12, "count", "(I)I"⟩
abbrev cX12_isSheet : ByteArray := prog_14_method_79_code
def yX12_isSheet : MethodName := ⟨RX12, "isSheet", "(I)Z"⟩
abbrev cX12_sheet : ByteArray := prog_14_method_80_code
def yX12_sheet : MethodName := ⟨RX12, "sheet", "(III)I"⟩
abbrev cX12_cell : ByteArray := prog_14_method_81_code
def yX12_cell : MethodName := ⟨RX12, "cell", "(III)I"⟩
abbrev cX12_copy : ByteArray := prog_14_method_82_code
def yX12_copy : MethodName := ⟨RX12, "copy", "(IIIII)I"⟩
abbrev cX12_papers : ByteArray := prog_14_method_83_code
def yX12_papers : MethodName := ⟨RX12, "papers", "(IIII)I"⟩
abbrev cX12_over : ByteArray := prog_14_method_84_code
def yX12_over : MethodName := ⟨RX12, "over", "(I)I"⟩
abbrev cX12_taken : ByteArray := prog_14_method_85_code
def yX12_taken : MethodName := ⟨RX12, "taken", "(II)I"⟩
def RJx145de : String := "java/io/Serializable"
def TJx145de : u_T := fun k => match k with
  | _ => ("", "", "", false)
def tyJx145de : Nat → FieldType := fun k => match k with
  | _ => .int
theorem nmJx145de : ∀ a, a < 0 → ∀ b, b < 0 → a ≠ b → (TJx145de a).2.1 ≠ (TJx145de b).2.1 := by decide +kernel
theorem tyJx145de_ok : ∀ k, k < 0 → parseFieldDescriptor (TJx145de k).2.2.1 = some (tyJx145de k) := by decide +kernel
def RJx9f9b0 : String := "java/lang/CharSequence"
def TJx9f9b0 : u_T := fun k => match k with
  | _ => ("", "", "", false)
def tyJx9f9b0 : Nat → FieldType := fun k => match k with
  | _ => .int
theorem nmJx9f9b0 : ∀ a, a < 0 → ∀ b, b < 0 → a ≠ b → (TJx9f9b0 a).2.1 ≠ (TJx9f9b0 b).2.1 := by decide +kernel
theorem tyJx9f9b0_ok : ∀ k, k < 0 → parseFieldDescriptor (TJx9f9b0 k).2.2.1 = some (tyJx9f9b0 k) := by decide +kernel
def RJx8e188 : String := "java/lang/Cloneable"
def TJx8e188 : u_T := fun k => match k with
  | _ => ("", "", "", false)
def tyJx8e188 : Nat → FieldType := fun k => match k with
  | _ => .int
theorem nmJx8e188 : ∀ a, a < 0 → ∀ b, b < 0 → a ≠ b → (TJx8e188 a).2.1 ≠ (TJx8e188 b).2.1 := by decide +kernel
theorem tyJx8e188_ok : ∀ k, k < 0 → parseFieldDescriptor (TJx8e188 k).2.2.1 = some (tyJx8e188 k) := by decide +kernel
def RJxb160c : String := "java/lang/Comparable"
def TJxb160c : u_T := fun k => match k with
  | _ => ("", "", "", false)
def tyJxb160c : Nat → FieldType := fun k => match k with
  | _ => .int
theorem nmJxb160c : ∀ a, a < 0 → ∀ b, b < 0 → a ≠ b → (TJxb160c a).2.1 ≠ (TJxb160c b).2.1 := by decide +kernel
theorem tyJxb160c_ok : ∀ k, k < 0 → parseFieldDescriptor (TJxb160c k).2.2.1 = some (tyJxb160c k) := by decide +kernel
def RJ6 : String := "java/lang/Integer"
def TJ6 : u_T := fun k => match k with
  | _ => ("", "", "", false)
def tyJ6 : Nat → FieldType := fun k => match k with
  | _ => .int
theorem nmJ6 : ∀ a, a < 0 → ∀ b, b < 0 → a ≠ b → (TJ6 a).2.1 ≠ (TJ6 b).2.1 := by decide +kernel
theorem tyJ6_ok : ∀ k, k < 0 → parseFieldDescriptor (TJ6 k).2.2.1 = some (tyJ6 k) := by decide +kernel
abbrev cJ6_numberOfTrailingZeros_0f7a4 : ByteArray := prog_16_method_48_code
def yJ6_numberOfTrailingZeros_0f7a4 : MethodName := ⟨RJ6, "numberOfTrailingZeros", "(I)I"⟩
abbrev cJ6_bitCount_0f7a4 : ByteArray := prog_16_method_49_code
def yJ6_bitCount_0f7a4 : MethodName := ⟨RJ6, "bitCount", "(I)I"⟩
def RJ9 : String := "java/lang/Math"
def TJ9 : u_T := fun k => match k with
  | _ => ("", "", "", false)
def tyJ9 : Nat → FieldType := fun k => match k with
  | _ => .int
theorem nmJ9 : ∀ a, a < 0 → ∀ b, b < 0 → a ≠ b → (TJ9 a).2.1 ≠ (TJ9 b).2.1 := by decide +kernel
theorem tyJ9_ok : ∀ k, k < 0 → parseFieldDescriptor (TJ9 k).2.2.1 = some (tyJ9 k) := by decide +kernel
abbrev cJ9_floorMod_7cf53 : ByteArray := prog_17_method_50_code
def yJ9_floorMod_7cf53 : MethodName := ⟨RJ9, "floorMod", "(II)I"⟩
abbrev cJ9_max_7cf53 : ByteArray := prog_17_method_65_code
def yJ9_max_7cf53 : MethodName := ⟨RJ9, "max", "(II)I"⟩
abbrev cJ9_max_f86c9 : ByteArray := prog_17_method_66_code
def yJ9_max_f86c9 : MethodName := ⟨RJ9, "max", "(JJ)J"⟩
abbrev cJ9_min_7cf53 : ByteArray := prog_17_method_69_code
def yJ9_min_7cf53 : MethodName := ⟨RJ9, "min", "(II)I"⟩
abbrev cJ9_min_f86c9 : ByteArray := prog_17_method_70_code
def yJ9_min_f86c9 : MethodName := ⟨RJ9, "min", "(JJ)J"⟩
def RJ0 : String := "java/lang/String"
def TJ0 : u_T := fun k => match k with
  | _ => ("", "", "", false)
def tyJ0 : Nat → FieldType := fun k => match k with
  | _ => .int
theorem nmJ0 : ∀ a, a < 0 → ∀ b, b < 0 → a ≠ b → (TJ0 a).2.1 ≠ (TJ0 b).2.1 := by decide +kernel
theorem tyJ0_ok : ∀ k, k < 0 → parseFieldDescriptor (TJ0 k).2.2.1 = some (tyJ0 k) := by decide +kernel
abbrev cJ0_length_8abf5 : ByteArray := prog_18_method_54_code
def yJ0_length_8abf5 : MethodName := ⟨RJ0, "length", "()I"⟩
abbrev cJ0_charAt_5068e : ByteArray := prog_18_method_56_code
def yJ0_charAt_5068e : MethodName := ⟨RJ0, "charAt", "(I)C"⟩
abbrev cJ0_coder_7d493 : ByteArray := prog_18_method_152_code
def yJ0_coder_7d493 : MethodName := ⟨RJ0, "coder", "()B"⟩
abbrev cJ0_isLatin1_aae02 : ByteArray := prog_18_method_154_code
def yJ0_isLatin1_aae02 : MethodName := ⟨RJ0, "isLatin1", "()Z"⟩
abbrev cJ0_checkIndex_df160 : ByteArray := prog_18_method_155_code
def yJ0_checkIndex_df160 : MethodName := ⟨RJ0, "checkIndex", "(II)V"⟩
def RJ1 : String := "java/lang/StringLatin1"
def TJ1 : u_T := fun k => match k with
  | _ => ("", "", "", false)
def tyJ1 : Nat → FieldType := fun k => match k with
  | _ => .int
theorem nmJ1 : ∀ a, a < 0 → ∀ b, b < 0 → a ≠ b → (TJ1 a).2.1 ≠ (TJ1 b).2.1 := by decide +kernel
theorem tyJ1_ok : ∀ k, k < 0 → parseFieldDescriptor (TJ1 k).2.2.1 = some (tyJ1 k) := by decide +kernel
abbrev cJ1_charAt_3b067 : ByteArray := prog_19_method_2_code
def yJ1_charAt_3b067 : MethodName := ⟨RJ1, "charAt", "([BI)C"⟩
def RJ2 : String := "java/lang/StringUTF16"
def TJ2 : u_T := fun k => match k with
  | _ => ("", "", "", false)
def tyJ2 : Nat → FieldType := fun k => match k with
  | _ => .int
theorem nmJ2 : ∀ a, a < 0 → ∀ b, b < 0 → a ≠ b → (TJ2 a).2.1 ≠ (TJ2 b).2.1 := by decide +kernel
theorem tyJ2_ok : ∀ k, k < 0 → parseFieldDescriptor (TJ2 k).2.2.1 = some (tyJ2 k) := by decide +kernel
abbrev cJ2_getChar_3b067 : ByteArray := prog_20_method_5_code
def yJ2_getChar_3b067 : MethodName := ⟨RJ2, "getChar", "([BI)C"⟩
abbrev cJ2_length_9d52b : ByteArray := prog_20_method_6_code
def yJ2_length_9d52b : MethodName := ⟨RJ2, "length", "([B)I"⟩
abbrev cJ2_charAt_3b067 : ByteArray := prog_20_method_83_code
def yJ2_charAt_3b067 : MethodName := ⟨RJ2, "charAt", "([BI)C"⟩
abbrev cJ2_checkIndex_2214a : ByteArray := prog_20_method_91_code
def yJ2_checkIndex_2214a : MethodName := ⟨RJ2, "checkIndex", "(I[B)V"⟩
def RJ10 : String := "java/lang/System"
def TJ10 : u_T := fun k => match k with
  | _ => ("", "", "", false)
def tyJ10 : Nat → FieldType := fun k => match k with
  | _ => .int
theorem nmJ10 : ∀ a, a < 0 → ∀ b, b < 0 → a ≠ b → (TJ10 a).2.1 ≠ (TJ10 b).2.1 := by decide +kernel
theorem tyJ10_ok : ∀ k, k < 0 → parseFieldDescriptor (TJ10 k).2.2.1 = some (tyJ10 k) := by decide +kernel
def RJxfd54e : String := "java/lang/constant/Constable"
def TJxfd54e : u_T := fun k => match k with
  | _ => ("", "", "", false)
def tyJxfd54e : Nat → FieldType := fun k => match k with
  | _ => .int
theorem nmJxfd54e : ∀ a, a < 0 → ∀ b, b < 0 → a ≠ b → (TJxfd54e a).2.1 ≠ (TJxfd54e b).2.1 := by decide +kernel
theorem tyJxfd54e_ok : ∀ k, k < 0 → parseFieldDescriptor (TJxfd54e k).2.2.1 = some (tyJxfd54e k) := by decide +kernel
def RJx3cf43 : String := "java/lang/constant/ConstantDesc"
def TJx3cf43 : u_T := fun k => match k with
  | _ => ("", "", "", false)
def tyJx3cf43 : Nat → FieldType := fun k => match k with
  | _ => .int
theorem nmJx3cf43 : ∀ a, a < 0 → ∀ b, b < 0 → a ≠ b → (TJx3cf43 a).2.1 ≠ (TJx3cf43 b).2.1 := by decide +kernel
theorem tyJx3cf43_ok : ∀ k, k < 0 → parseFieldDescriptor (TJx3cf43 k).2.2.1 = some (tyJx3cf43 k) := by decide +kernel
def RJ7 : String := "java/util/Arrays"
def TJ7 : u_T := fun k => match k with
  | _ => ("", "", "", false)
def tyJ7 : Nat → FieldType := fun k => match k with
  | _ => .int
theorem nmJ7 : ∀ a, a < 0 → ∀ b, b < 0 → a ≠ b → (TJ7 a).2.1 ≠ (TJ7 b).2.1 := by decide +kernel
theorem tyJ7_ok : ∀ k, k < 0 → parseFieldDescriptor (TJ7 k).2.2.1 = some (tyJ7 k) := by decide +kernel
abbrev cJ7_fill_d0a16 : ByteArray := prog_22_method_101_code
def yJ7_fill_d0a16 : MethodName := ⟨RJ7, "fill", "([JJ)V"⟩
abbrev cJ7_copyOf_59c91 : ByteArray := prog_22_method_123_code
def yJ7_copyOf_59c91 : MethodName := ⟨RJ7, "copyOf", "([II)[I"⟩
def RJ3 : String := "jdk/internal/util/Preconditions"
def TJ3 : u_T := fun k => match k with
  | _ => ("", "", "", false)
def tyJ3 : Nat → FieldType := fun k => match k with
  | _ => .int
theorem nmJ3 : ∀ a, a < 0 → ∀ b, b < 0 → a ≠ b → (TJ3 a).2.1 ≠ (TJ3 b).2.1 := by decide +kernel
theorem tyJ3_ok : ∀ k, k < 0 → parseFieldDescriptor (TJ3 k).2.2.1 = some (tyJ3 k) := by decide +kernel
abbrev cJ3_checkIndex_8e157 : ByteArray := prog_23_method_11_code
def yJ3_checkIndex_8e157 : MethodName := ⟨RJ3, "checkIndex", "(IILjava/util/function/BiFunction;)I"⟩
def RL : String := "VaseCourtLaw"
abbrev cL_cell : ByteArray := method_2_code
def yL_cell : MethodName := ⟨RL, "cell", "([II)I"⟩
abbrev cL_law : ByteArray := code
def yL_law : MethodName := ⟨RL, "law", "([I)Z"⟩
abbrev vwCl : List vw_C := [(RX0, TX0, 8), (RX1, TX1, 7), (RX2, TX2, 2), (RX3, TX3, 11), (RX4, TX4, 8), (RX5, TX5, 9), (RX6, TX6, 4), (RX7, TX7, 3), (RX8, TX8, 7), (RX9, TX9, 2), (RX10, TX10, 2), (RX11, TX11, 11), (RX12, TX12, 61)]
end
section
theorem dX0_init_0 : decode cX0_init 0 = .ok (.aload_n 0, 1) := by decide +kernel
theorem dX0_init_1 : decode cX0_init 1 = .ok (.invokespecial 3, 3) := by decide +kernel
theorem dX0_init_4 : decode cX0_init 4 = .ok (.aload_n 0, 1) := by decide +kernel
theorem dX0_init_5 : decode cX0_init 5 = .ok (.bipush 60, 2) := by decide +kernel
theorem dX0_init_7 : decode cX0_init 7 = .ok (.newarray .long, 2) := by decide +kernel
theorem dX0_init_9 : decode cX0_init 9 = .ok (.putfield 11, 3) := by decide +kernel
theorem dX0_init_12 : decode cX0_init 12 = .ok (.aload_n 0, 1) := by decide +kernel
theorem dX0_init_13 : decode cX0_init 13 = .ok (.iconst 5, 1) := by decide +kernel
theorem dX0_init_14 : decode cX0_init 14 = .ok (.newarray .long, 2) := by decide +kernel
theorem dX0_init_16 : decode cX0_init 16 = .ok (.putfield 15, 3) := by decide +kernel
theorem dX0_init_19 : decode cX0_init 19 = .ok (.aload_n 0, 1) := by decide +kernel
theorem dX0_init_20 : decode cX0_init 20 = .ok (.bipush 60, 2) := by decide +kernel
theorem dX0_init_22 : decode cX0_init 22 = .ok (.newarray .long, 2) := by decide +kernel
theorem dX0_init_24 : decode cX0_init 24 = .ok (.putfield 18, 3) := by decide +kernel
theorem dX0_init_27 : decode cX0_init 27 = .ok (.aload_n 0, 1) := by decide +kernel
theorem dX0_init_28 : decode cX0_init 28 = .ok (.iload_n 1, 1) := by decide +kernel
theorem dX0_init_29 : decode cX0_init 29 = .ok (.putfield 21, 3) := by decide +kernel
theorem dX0_init_32 : decode cX0_init 32 = .ok (.aload_n 0, 1) := by decide +kernel
theorem dX0_init_33 : decode cX0_init 33 = .ok (.aload_n 2, 1) := by decide +kernel
theorem dX0_init_34 : decode cX0_init 34 = .ok (.putfield 25, 3) := by decide +kernel
theorem dX0_init_37 : decode cX0_init 37 = .ok (.aload_n 0, 1) := by decide +kernel
theorem dX0_init_38 : decode cX0_init 38 = .ok (.aload_n 3, 1) := by decide +kernel
theorem dX0_init_39 : decode cX0_init 39 = .ok (.putfield 29, 3) := by decide +kernel
theorem dX0_init_42 : decode cX0_init 42 = .ok (.aload_n 0, 1) := by decide +kernel
theorem dX0_init_43 : decode cX0_init 43 = .ok (.aload 4, 2) := by decide +kernel
theorem dX0_init_45 : decode cX0_init 45 = .ok (.putfield 33, 3) := by decide +kernel
theorem dX0_init_48 : decode cX0_init 48 = .ok (.return_, 1) := by decide +kernel
theorem dX0_givenTo_0 : decode cX0_givenTo 0 = .ok (.aload_n 0, 1) := by decide +kernel
theorem dX0_givenTo_1 : decode cX0_givenTo 1 = .ok (.getfield 15, 3) := by decide +kernel
theorem dX0_givenTo_4 : decode cX0_givenTo 4 = .ok (.iload_n 1, 1) := by decide +kernel
theorem dX0_givenTo_5 : decode cX0_givenTo 5 = .ok (.laload, 1) := by decide +kernel
theorem dX0_givenTo_6 : decode cX0_givenTo 6 = .ok (.aload_n 0, 1) := by decide +kernel
theorem dX0_givenTo_7 : decode cX0_givenTo 7 = .ok (.getfield 18, 3) := by decide +kernel
theorem dX0_givenTo_10 : decode cX0_givenTo 10 = .ok (.iload_n 1, 1) := by decide +kernel
theorem dX0_givenTo_11 : decode cX0_givenTo 11 = .ok (.aload_n 0, 1) := by decide +kernel
theorem dX0_givenTo_12 : decode cX0_givenTo 12 = .ok (.getfield 21, 3) := by decide +kernel
theorem dX0_givenTo_15 : decode cX0_givenTo 15 = .ok (.iconst 1, 1) := by decide +kernel
theorem dX0_givenTo_16 : decode cX0_givenTo 16 = .ok (.isub, 1) := by decide +kernel
theorem dX0_givenTo_17 : decode cX0_givenTo 17 = .ok (.invokestatic 37, 3) := by decide +kernel
theorem dX0_givenTo_20 : decode cX0_givenTo 20 = .ok (.laload, 1) := by decide +kernel
theorem dX0_givenTo_21 : decode cX0_givenTo 21 = .ok (.ladd, 1) := by decide +kernel
theorem dX0_givenTo_22 : decode cX0_givenTo 22 = .ok (.lreturn, 1) := by decide +kernel
theorem dX0_claimsOf_0 : decode cX0_claimsOf 0 = .ok (.aload_n 0, 1) := by decide +kernel
theorem dX0_claimsOf_1 : decode cX0_claimsOf 1 = .ok (.iload_n 1, 1) := by decide +kernel
theorem dX0_claimsOf_2 : decode cX0_claimsOf 2 = .ok (.invokevirtual 41, 3) := by decide +kernel
theorem dX0_claimsOf_5 : decode cX0_claimsOf 5 = .ok (.aload_n 0, 1) := by decide +kernel
theorem dX0_claimsOf_6 : decode cX0_claimsOf 6 = .ok (.getfield 15, 3) := by decide +kernel
theorem dX0_claimsOf_9 : decode cX0_claimsOf 9 = .ok (.iload_n 1, 1) := by decide +kernel
theorem dX0_claimsOf_10 : decode cX0_claimsOf 10 = .ok (.laload, 1) := by decide +kernel
theorem dX0_claimsOf_11 : decode cX0_claimsOf 11 = .ok (.lreturn, 1) := by decide +kernel
theorem dX0_has_0 : decode cX0_has 0 = .ok (.iload_n 1, 1) := by decide +kernel
theorem dX0_has_1 : decode cX0_has 1 = .ok (.ifCond .lt 15, 3) := by decide +kernel
theorem dX0_has_4 : decode cX0_has 4 = .ok (.iload_n 1, 1) := by decide +kernel
theorem dX0_has_5 : decode cX0_has 5 = .ok (.aload_n 0, 1) := by decide +kernel
theorem dX0_has_6 : decode cX0_has 6 = .ok (.getfield 45, 3) := by decide +kernel
theorem dX0_has_9 : decode cX0_has 9 = .ok (.if_icmp .ge 7, 3) := by decide +kernel
theorem dX0_has_12 : decode cX0_has 12 = .ok (.iconst 1, 1) := by decide +kernel
theorem dX0_has_13 : decode cX0_has 13 = .ok (.goto 4, 3) := by decide +kernel
theorem dX0_has_16 : decode cX0_has 16 = .ok (.iconst 0, 1) := by decide +kernel
theorem dX0_has_17 : decode cX0_has 17 = .ok (.ireturn, 1) := by decide +kernel
theorem dX0_keep_0 : decode cX0_keep 0 = .ok (.iconst 0, 1) := by decide +kernel
theorem dX0_keep_1 : decode cX0_keep 1 = .ok (.istore_n 1, 1) := by decide +kernel
theorem dX0_keep_2 : decode cX0_keep 2 = .ok (.iload_n 1, 1) := by decide +kernel
theorem dX0_keep_3 : decode cX0_keep 3 = .ok (.iconst 5, 1) := by decide +kernel
theorem dX0_keep_4 : decode cX0_keep 4 = .ok (.if_icmp .ge 27, 3) := by decide +kernel
theorem dX0_keep_7 : decode cX0_keep 7 = .ok (.aload_n 0, 1) := by decide +kernel
theorem dX0_keep_8 : decode cX0_keep 8 = .ok (.getfield 11, 3) := by decide +kernel
theorem dX0_keep_11 : decode cX0_keep 11 = .ok (.aload_n 0, 1) := by decide +kernel
theorem dX0_keep_12 : decode cX0_keep 12 = .ok (.getfield 45, 3) := by decide +kernel
theorem dX0_keep_15 : decode cX0_keep 15 = .ok (.iconst 5, 1) := by decide +kernel
theorem dX0_keep_16 : decode cX0_keep 16 = .ok (.imul, 1) := by decide +kernel
theorem dX0_keep_17 : decode cX0_keep 17 = .ok (.iload_n 1, 1) := by decide +kernel
theorem dX0_keep_18 : decode cX0_keep 18 = .ok (.iadd, 1) := by decide +kernel
theorem dX0_keep_19 : decode cX0_keep 19 = .ok (.aload_n 0, 1) := by decide +kernel
theorem dX0_keep_20 : decode cX0_keep 20 = .ok (.iload_n 1, 1) := by decide +kernel
theorem dX0_keep_21 : decode cX0_keep 21 = .ok (.invokevirtual 48, 3) := by decide +kernel
theorem dX0_keep_24 : decode cX0_keep 24 = .ok (.lastore, 1) := by decide +kernel
theorem dX0_keep_25 : decode cX0_keep 25 = .ok (.iinc 1 1, 3) := by decide +kernel
theorem dX0_keep_28 : decode cX0_keep 28 = .ok (.goto (-26), 3) := by decide +kernel
theorem dX0_keep_31 : decode cX0_keep 31 = .ok (.aload_n 0, 1) := by decide +kernel
theorem dX0_keep_32 : decode cX0_keep 32 = .ok (.dup, 1) := by decide +kernel
theorem dX0_keep_33 : decode cX0_keep 33 = .ok (.getfield 45, 3) := by decide +kernel
theorem dX0_keep_36 : decode cX0_keep 36 = .ok (.dup_x1, 1) := by decide +kernel
theorem dX0_keep_37 : decode cX0_keep 37 = .ok (.iconst 1, 1) := by decide +kernel
theorem dX0_keep_38 : decode cX0_keep 38 = .ok (.iadd, 1) := by decide +kernel
theorem dX0_keep_39 : decode cX0_keep 39 = .ok (.putfield 45, 3) := by decide +kernel
theorem dX0_keep_42 : decode cX0_keep 42 = .ok (.ireturn, 1) := by decide +kernel
theorem dX0_keptFor_0 : decode cX0_keptFor 0 = .ok (.aload_n 0, 1) := by decide +kernel
theorem dX0_keptFor_1 : decode cX0_keptFor 1 = .ok (.getfield 11, 3) := by decide +kernel
theorem dX0_keptFor_4 : decode cX0_keptFor 4 = .ok (.iload_n 1, 1) := by decide +kernel
theorem dX0_keptFor_5 : decode cX0_keptFor 5 = .ok (.iconst 5, 1) := by decide +kernel
theorem dX0_keptFor_6 : decode cX0_keptFor 6 = .ok (.imul, 1) := by decide +kernel
theorem dX0_keptFor_7 : decode cX0_keptFor 7 = .ok (.iload_n 2, 1) := by decide +kernel
theorem dX0_keptFor_8 : decode cX0_keptFor 8 = .ok (.iadd, 1) := by decide +kernel
theorem dX0_keptFor_9 : decode cX0_keptFor 9 = .ok (.laload, 1) := by decide +kernel
theorem dX0_keptFor_10 : decode cX0_keptFor 10 = .ok (.lreturn, 1) := by decide +kernel
theorem dX0_changedLands_0 : decode cX0_changedLands 0 = .ok (.iconst 0, 1) := by decide +kernel
theorem dX0_changedLands_1 : decode cX0_changedLands 1 = .ok (.istore_n 2, 1) := by decide +kernel
theorem dX0_changedLands_2 : decode cX0_changedLands 2 = .ok (.iconst 0, 1) := by decide +kernel
theorem dX0_changedLands_3 : decode cX0_changedLands 3 = .ok (.istore_n 3, 1) := by decide +kernel
theorem dX0_changedLands_4 : decode cX0_changedLands 4 = .ok (.iload_n 3, 1) := by decide +kernel
theorem dX0_changedLands_5 : decode cX0_changedLands 5 = .ok (.iconst 5, 1) := by decide +kernel
theorem dX0_changedLands_6 : decode cX0_changedLands 6 = .ok (.if_icmp .ge 30, 3) := by decide +kernel
theorem dX0_changedLands_9 : decode cX0_changedLands 9 = .ok (.aload_n 0, 1) := by decide +kernel
theorem dX0_changedLands_10 : decode cX0_changedLands 10 = .ok (.iload_n 3, 1) := by decide +kernel
theorem dX0_changedLands_11 : decode cX0_changedLands 11 = .ok (.invokevirtual 48, 3) := by decide +kernel
theorem dX0_changedLands_14 : decode cX0_changedLands 14 = .ok (.aload_n 0, 1) := by decide +kernel
theorem dX0_changedLands_15 : decode cX0_changedLands 15 = .ok (.iload_n 1, 1) := by decide +kernel
theorem dX0_changedLands_16 : decode cX0_changedLands 16 = .ok (.iload_n 3, 1) := by decide +kernel
theorem dX0_changedLands_17 : decode cX0_changedLands 17 = .ok (.invokevirtual 52, 3) := by decide +kernel
theorem dX0_changedLands_20 : decode cX0_changedLands 20 = .ok (.lcmp, 1) := by decide +kernel
theorem dX0_changedLands_21 : decode cX0_changedLands 21 = .ok (.ifCond .eq 9, 3) := by decide +kernel
theorem dX0_changedLands_24 : decode cX0_changedLands 24 = .ok (.iload_n 2, 1) := by decide +kernel
theorem dX0_changedLands_25 : decode cX0_changedLands 25 = .ok (.iconst 1, 1) := by decide +kernel
theorem dX0_changedLands_26 : decode cX0_changedLands 26 = .ok (.iload_n 3, 1) := by decide +kernel
theorem dX0_changedLands_27 : decode cX0_changedLands 27 = .ok (.ishl, 1) := by decide +kernel
theorem dX0_changedLands_28 : decode cX0_changedLands 28 = .ok (.ior, 1) := by decide +kernel
theorem dX0_changedLands_29 : decode cX0_changedLands 29 = .ok (.istore_n 2, 1) := by decide +kernel
theorem dX0_changedLands_30 : decode cX0_changedLands 30 = .ok (.iinc 3 1, 3) := by decide +kernel
theorem dX0_changedLands_33 : decode cX0_changedLands 33 = .ok (.goto (-29), 3) := by decide +kernel
theorem dX0_changedLands_36 : decode cX0_changedLands 36 = .ok (.iload_n 2, 1) := by decide +kernel
theorem dX0_changedLands_37 : decode cX0_changedLands 37 = .ok (.ireturn, 1) := by decide +kernel
theorem dX0_giveBack_0 : decode cX0_giveBack 0 = .ok (.aload_n 0, 1) := by decide +kernel
theorem dX0_giveBack_1 : decode cX0_giveBack 1 = .ok (.getfield 15, 3) := by decide +kernel
theorem dX0_giveBack_4 : decode cX0_giveBack 4 = .ok (.lconst 0, 1) := by decide +kernel
theorem dX0_giveBack_5 : decode cX0_giveBack 5 = .ok (.invokestatic 56, 3) := by decide +kernel
theorem dX0_giveBack_8 : decode cX0_giveBack 8 = .ok (.aload_n 0, 1) := by decide +kernel
theorem dX0_giveBack_9 : decode cX0_giveBack 9 = .ok (.getfield 18, 3) := by decide +kernel
theorem dX0_giveBack_12 : decode cX0_giveBack 12 = .ok (.lconst 0, 1) := by decide +kernel
theorem dX0_giveBack_13 : decode cX0_giveBack 13 = .ok (.invokestatic 56, 3) := by decide +kernel
theorem dX0_giveBack_16 : decode cX0_giveBack 16 = .ok (.iconst 0, 1) := by decide +kernel
theorem dX0_giveBack_17 : decode cX0_giveBack 17 = .ok (.istore_n 2, 1) := by decide +kernel
theorem dX0_giveBack_18 : decode cX0_giveBack 18 = .ok (.iload_n 2, 1) := by decide +kernel
theorem dX0_giveBack_19 : decode cX0_giveBack 19 = .ok (.iconst 5, 1) := by decide +kernel
theorem dX0_giveBack_20 : decode cX0_giveBack 20 = .ok (.if_icmp .ge 24, 3) := by decide +kernel
theorem dX0_giveBack_23 : decode cX0_giveBack 23 = .ok (.aload_n 0, 1) := by decide +kernel
theorem dX0_giveBack_24 : decode cX0_giveBack 24 = .ok (.getfield 18, 3) := by decide +kernel
theorem dX0_giveBack_27 : decode cX0_giveBack 27 = .ok (.iload_n 2, 1) := by decide +kernel
theorem dX0_giveBack_28 : decode cX0_giveBack 28 = .ok (.aload_n 0, 1) := by decide +kernel
theorem dX0_giveBack_29 : decode cX0_giveBack 29 = .ok (.getfield 25, 3) := by decide +kernel
theorem dX0_giveBack_32 : decode cX0_giveBack 32 = .ok (.getfield 62, 3) := by decide +kernel
theorem dX0_giveBack_35 : decode cX0_giveBack 35 = .ok (.iload_n 2, 1) := by decide +kernel
theorem dX0_giveBack_36 : decode cX0_giveBack 36 = .ok (.laload, 1) := by decide +kernel
theorem dX0_giveBack_37 : decode cX0_giveBack 37 = .ok (.lastore, 1) := by decide +kernel
theorem dX0_giveBack_38 : decode cX0_giveBack 38 = .ok (.iinc 2 1, 3) := by decide +kernel
theorem dX0_giveBack_41 : decode cX0_giveBack 41 = .ok (.goto (-23), 3) := by decide +kernel
theorem dX0_giveBack_44 : decode cX0_giveBack 44 = .ok (.iconst 0, 1) := by decide +kernel
theorem dX0_giveBack_45 : decode cX0_giveBack 45 = .ok (.istore_n 2, 1) := by decide +kernel
theorem dX0_giveBack_46 : decode cX0_giveBack 46 = .ok (.iload_n 2, 1) := by decide +kernel
theorem dX0_giveBack_47 : decode cX0_giveBack 47 = .ok (.aload_n 0, 1) := by decide +kernel
theorem dX0_giveBack_48 : decode cX0_giveBack 48 = .ok (.getfield 21, 3) := by decide +kernel
theorem dX0_giveBack_51 : decode cX0_giveBack 51 = .ok (.iconst 1, 1) := by decide +kernel
theorem dX0_giveBack_52 : decode cX0_giveBack 52 = .ok (.isub, 1) := by decide +kernel
theorem dX0_giveBack_53 : decode cX0_giveBack 53 = .ok (.if_icmp .ge 44, 3) := by decide +kernel
theorem dX0_giveBack_56 : decode cX0_giveBack 56 = .ok (.iconst 0, 1) := by decide +kernel
theorem dX0_giveBack_57 : decode cX0_giveBack 57 = .ok (.istore_n 3, 1) := by decide +kernel
theorem dX0_giveBack_58 : decode cX0_giveBack 58 = .ok (.iload_n 3, 1) := by decide +kernel
theorem dX0_giveBack_59 : decode cX0_giveBack 59 = .ok (.iconst 5, 1) := by decide +kernel
theorem dX0_giveBack_60 : decode cX0_giveBack 60 = .ok (.if_icmp .ge 31, 3) := by decide +kernel
theorem dX0_giveBack_63 : decode cX0_giveBack 63 = .ok (.aload_n 0, 1) := by decide +kernel
theorem dX0_giveBack_64 : decode cX0_giveBack 64 = .ok (.getfield 18, 3) := by decide +kernel
theorem dX0_giveBack_67 : decode cX0_giveBack 67 = .ok (.iload_n 3, 1) := by decide +kernel
theorem dX0_giveBack_68 : decode cX0_giveBack 68 = .ok (.iload_n 2, 1) := by decide +kernel
theorem dX0_giveBack_69 : decode cX0_giveBack 69 = .ok (.invokestatic 37, 3) := by decide +kernel
theorem dX0_giveBack_72 : decode cX0_giveBack 72 = .ok (.laload, 1) := by decide +kernel
theorem dX0_giveBack_73 : decode cX0_giveBack 73 = .ok (.lconst 0, 1) := by decide +kernel
theorem dX0_giveBack_74 : decode cX0_giveBack 74 = .ok (.lcmp, 1) := by decide +kernel
theorem dX0_giveBack_75 : decode cX0_giveBack 75 = .ok (.ifCond .eq 10, 3) := by decide +kernel
theorem dX0_giveBack_78 : decode cX0_giveBack 78 = .ok (.aload_n 0, 1) := by decide +kernel
theorem dX0_giveBack_79 : decode cX0_giveBack 79 = .ok (.iload_n 3, 1) := by decide +kernel
theorem dX0_giveBack_80 : decode cX0_giveBack 80 = .ok (.iload_n 2, 1) := by decide +kernel
theorem dX0_giveBack_81 : decode cX0_giveBack 81 = .ok (.iload_n 1, 1) := by decide +kernel
theorem dX0_giveBack_82 : decode cX0_giveBack 82 = .ok (.invokevirtual 67, 3) := by decide +kernel
theorem dX0_giveBack_85 : decode cX0_giveBack 85 = .ok (.iinc 3 1, 3) := by decide +kernel
theorem dX0_giveBack_88 : decode cX0_giveBack 88 = .ok (.goto (-30), 3) := by decide +kernel
theorem dX0_giveBack_91 : decode cX0_giveBack 91 = .ok (.iinc 2 1, 3) := by decide +kernel
theorem dX0_giveBack_94 : decode cX0_giveBack 94 = .ok (.goto (-48), 3) := by decide +kernel
theorem dX0_giveBack_97 : decode cX0_giveBack 97 = .ok (.return_, 1) := by decide +kernel
theorem dX0_goOn_0 : decode cX0_goOn 0 = .ok (.aload_n 0, 1) := by decide +kernel
theorem dX0_goOn_1 : decode cX0_goOn 1 = .ok (.getfield 18, 3) := by decide +kernel
theorem dX0_goOn_4 : decode cX0_goOn 4 = .ok (.iload_n 1, 1) := by decide +kernel
theorem dX0_goOn_5 : decode cX0_goOn 5 = .ok (.iload_n 2, 1) := by decide +kernel
theorem dX0_goOn_6 : decode cX0_goOn 6 = .ok (.invokestatic 37, 3) := by decide +kernel
theorem dX0_goOn_9 : decode cX0_goOn 9 = .ok (.laload, 1) := by decide +kernel
theorem dX0_goOn_10 : decode cX0_goOn 10 = .ok (.lstore 4, 2) := by decide +kernel
theorem dX0_goOn_12 : decode cX0_goOn 12 = .ok (.iconst 0, 1) := by decide +kernel
theorem dX0_goOn_13 : decode cX0_goOn 13 = .ok (.istore 6, 2) := by decide +kernel
theorem dX0_goOn_15 : decode cX0_goOn 15 = .ok (.iload 6, 2) := by decide +kernel
theorem dX0_goOn_17 : decode cX0_goOn 17 = .ok (.iconst 5, 1) := by decide +kernel
theorem dX0_goOn_18 : decode cX0_goOn 18 = .ok (.if_icmp .ge 130, 3) := by decide +kernel
theorem dX0_goOn_21 : decode cX0_goOn 21 = .ok (.iload 6, 2) := by decide +kernel
theorem dX0_goOn_23 : decode cX0_goOn 23 = .ok (.iload_n 2, 1) := by decide +kernel
theorem dX0_goOn_24 : decode cX0_goOn 24 = .ok (.iconst 1, 1) := by decide +kernel
theorem dX0_goOn_25 : decode cX0_goOn 25 = .ok (.iadd, 1) := by decide +kernel
theorem dX0_goOn_26 : decode cX0_goOn 26 = .ok (.invokestatic 37, 3) := by decide +kernel
theorem dX0_goOn_29 : decode cX0_goOn 29 = .ok (.istore 7, 2) := by decide +kernel
theorem dX0_goOn_31 : decode cX0_goOn 31 = .ok (.aload_n 0, 1) := by decide +kernel
theorem dX0_goOn_32 : decode cX0_goOn 32 = .ok (.getfield 25, 3) := by decide +kernel
theorem dX0_goOn_35 : decode cX0_goOn 35 = .ok (.getfield 71, 3) := by decide +kernel
theorem dX0_goOn_38 : decode cX0_goOn 38 = .ok (.iload 7, 2) := by decide +kernel
theorem dX0_goOn_40 : decode cX0_goOn 40 = .ok (.laload, 1) := by decide +kernel
theorem dX0_goOn_41 : decode cX0_goOn 41 = .ok (.lconst 0, 1) := by decide +kernel
theorem dX0_goOn_42 : decode cX0_goOn 42 = .ok (.lcmp, 1) := by decide +kernel
theorem dX0_goOn_43 : decode cX0_goOn 43 = .ok (.ifCond .eq 99, 3) := by decide +kernel
theorem dX0_goOn_46 : decode cX0_goOn 46 = .ok (.aload_n 0, 1) := by decide +kernel
theorem dX0_goOn_47 : decode cX0_goOn 47 = .ok (.getfield 29, 3) := by decide +kernel
theorem dX0_goOn_50 : decode cX0_goOn 50 = .ok (.iload_n 1, 1) := by decide +kernel
theorem dX0_goOn_51 : decode cX0_goOn 51 = .ok (.iload 6, 2) := by decide +kernel
theorem dX0_goOn_53 : decode cX0_goOn 53 = .ok (.iload_n 2, 1) := by decide +kernel
theorem dX0_goOn_54 : decode cX0_goOn 54 = .ok (.invokevirtual 74, 3) := by decide +kernel
theorem dX0_goOn_57 : decode cX0_goOn 57 = .ok (.ifCond .ne 6, 3) := by decide +kernel
theorem dX0_goOn_60 : decode cX0_goOn 60 = .ok (.goto 82, 3) := by decide +kernel
theorem dX0_goOn_63 : decode cX0_goOn 63 = .ok (.iload_n 1, 1) := by decide +kernel
theorem dX0_goOn_64 : decode cX0_goOn 64 = .ok (.iload 6, 2) := by decide +kernel
theorem dX0_goOn_66 : decode cX0_goOn 66 = .ok (.if_icmp .eq 17, 3) := by decide +kernel
theorem dX0_goOn_69 : decode cX0_goOn 69 = .ok (.iload_n 3, 1) := by decide +kernel
theorem dX0_goOn_70 : decode cX0_goOn 70 = .ok (.iconst (-1), 1) := by decide +kernel
theorem dX0_goOn_71 : decode cX0_goOn 71 = .ok (.if_icmp .eq 8, 3) := by decide +kernel
theorem dX0_goOn_74 : decode cX0_goOn 74 = .ok (.iload_n 3, 1) := by decide +kernel
theorem dX0_goOn_75 : decode cX0_goOn 75 = .ok (.iload_n 1, 1) := by decide +kernel
theorem dX0_goOn_76 : decode cX0_goOn 76 = .ok (.if_icmp .ne 7, 3) := by decide +kernel
theorem dX0_goOn_79 : decode cX0_goOn 79 = .ok (.iconst 1, 1) := by decide +kernel
theorem dX0_goOn_80 : decode cX0_goOn 80 = .ok (.goto 4, 3) := by decide +kernel
theorem dX0_goOn_83 : decode cX0_goOn 83 = .ok (.iconst 0, 1) := by decide +kernel
theorem dX0_goOn_84 : decode cX0_goOn 84 = .ok (.istore 8, 2) := by decide +kernel
theorem dX0_goOn_86 : decode cX0_goOn 86 = .ok (.iload 8, 2) := by decide +kernel
theorem dX0_goOn_88 : decode cX0_goOn 88 = .ok (.ifCond .eq 42, 3) := by decide +kernel
theorem dX0_goOn_91 : decode cX0_goOn 91 = .ok (.aload_n 0, 1) := by decide +kernel
theorem dX0_goOn_92 : decode cX0_goOn 92 = .ok (.getfield 33, 3) := by decide +kernel
theorem dX0_goOn_95 : decode cX0_goOn 95 = .ok (.iload_n 1, 1) := by decide +kernel
theorem dX0_goOn_96 : decode cX0_goOn 96 = .ok (.iload 6, 2) := by decide +kernel
theorem dX0_goOn_98 : decode cX0_goOn 98 = .ok (.iload_n 2, 1) := by decide +kernel
theorem dX0_goOn_99 : decode cX0_goOn 99 = .ok (.invokevirtual 80, 3) := by decide +kernel
theorem dX0_goOn_102 : decode cX0_goOn 102 = .ok (.ifCond .eq 28, 3) := by decide +kernel
theorem dX0_goOn_105 : decode cX0_goOn 105 = .ok (.aload_n 0, 1) := by decide +kernel
theorem dX0_goOn_106 : decode cX0_goOn 106 = .ok (.getfield 15, 3) := by decide +kernel
theorem dX0_goOn_109 : decode cX0_goOn 109 = .ok (.iload_n 1, 1) := by decide +kernel
theorem dX0_goOn_110 : decode cX0_goOn 110 = .ok (.dup2, 1) := by decide +kernel
theorem dX0_goOn_111 : decode cX0_goOn 111 = .ok (.laload, 1) := by decide +kernel
theorem dX0_goOn_112 : decode cX0_goOn 112 = .ok (.lload 4, 2) := by decide +kernel
theorem dX0_goOn_114 : decode cX0_goOn 114 = .ok (.aload_n 0, 1) := by decide +kernel
theorem dX0_goOn_115 : decode cX0_goOn 115 = .ok (.getfield 25, 3) := by decide +kernel
theorem dX0_goOn_118 : decode cX0_goOn 118 = .ok (.getfield 71, 3) := by decide +kernel
theorem dX0_goOn_121 : decode cX0_goOn 121 = .ok (.iload 7, 2) := by decide +kernel
theorem dX0_goOn_123 : decode cX0_goOn 123 = .ok (.laload, 1) := by decide +kernel
theorem dX0_goOn_124 : decode cX0_goOn 124 = .ok (.lmul, 1) := by decide +kernel
theorem dX0_goOn_125 : decode cX0_goOn 125 = .ok (.ladd, 1) := by decide +kernel
theorem dX0_goOn_126 : decode cX0_goOn 126 = .ok (.lastore, 1) := by decide +kernel
theorem dX0_goOn_127 : decode cX0_goOn 127 = .ok (.goto 15, 3) := by decide +kernel
theorem dX0_goOn_130 : decode cX0_goOn 130 = .ok (.aload_n 0, 1) := by decide +kernel
theorem dX0_goOn_131 : decode cX0_goOn 131 = .ok (.getfield 18, 3) := by decide +kernel
theorem dX0_goOn_134 : decode cX0_goOn 134 = .ok (.iload 7, 2) := by decide +kernel
theorem dX0_goOn_136 : decode cX0_goOn 136 = .ok (.dup2, 1) := by decide +kernel
theorem dX0_goOn_137 : decode cX0_goOn 137 = .ok (.laload, 1) := by decide +kernel
theorem dX0_goOn_138 : decode cX0_goOn 138 = .ok (.lload 4, 2) := by decide +kernel
theorem dX0_goOn_140 : decode cX0_goOn 140 = .ok (.ladd, 1) := by decide +kernel
theorem dX0_goOn_141 : decode cX0_goOn 141 = .ok (.lastore, 1) := by decide +kernel
theorem dX0_goOn_142 : decode cX0_goOn 142 = .ok (.iinc 6 1, 3) := by decide +kernel
theorem dX0_goOn_145 : decode cX0_goOn 145 = .ok (.goto (-130), 3) := by decide +kernel
theorem dX0_goOn_148 : decode cX0_goOn 148 = .ok (.return_, 1) := by decide +kernel
theorem dX1_init_0 : decode cX1_init 0 = .ok (.aload_n 0, 1) := by decide +kernel
theorem dX1_init_1 : decode cX1_init 1 = .ok (.invokespecial 3, 3) := by decide +kernel
theorem dX1_init_4 : decode cX1_init 4 = .ok (.aload_n 0, 1) := by decide +kernel
theorem dX1_init_5 : decode cX1_init 5 = .ok (.bipush 31, 2) := by decide +kernel
theorem dX1_init_7 : decode cX1_init 7 = .ok (.putfield 9, 3) := by decide +kernel
theorem dX1_init_10 : decode cX1_init 10 = .ok (.aload_n 0, 1) := by decide +kernel
theorem dX1_init_11 : decode cX1_init 11 = .ok (.bipush 60, 2) := by decide +kernel
theorem dX1_init_13 : decode cX1_init 13 = .ok (.newarray .long, 2) := by decide +kernel
theorem dX1_init_15 : decode cX1_init 15 = .ok (.putfield 15, 3) := by decide +kernel
theorem dX1_init_18 : decode cX1_init 18 = .ok (.aload_n 0, 1) := by decide +kernel
theorem dX1_init_19 : decode cX1_init 19 = .ok (.bipush 60, 2) := by decide +kernel
theorem dX1_init_21 : decode cX1_init 21 = .ok (.newarray .long, 2) := by decide +kernel
theorem dX1_init_23 : decode cX1_init 23 = .ok (.putfield 19, 3) := by decide +kernel
theorem dX1_init_26 : decode cX1_init 26 = .ok (.aload_n 0, 1) := by decide +kernel
theorem dX1_init_27 : decode cX1_init 27 = .ok (.bipush 60, 2) := by decide +kernel
theorem dX1_init_29 : decode cX1_init 29 = .ok (.newarray .long, 2) := by decide +kernel
theorem dX1_init_31 : decode cX1_init 31 = .ok (.putfield 22, 3) := by decide +kernel
theorem dX1_init_34 : decode cX1_init 34 = .ok (.aload_n 0, 1) := by decide +kernel
theorem dX1_init_35 : decode cX1_init 35 = .ok (.iload_n 1, 1) := by decide +kernel
theorem dX1_init_36 : decode cX1_init 36 = .ok (.putfield 25, 3) := by decide +kernel
theorem dX1_init_39 : decode cX1_init 39 = .ok (.aload_n 0, 1) := by decide +kernel
theorem dX1_init_40 : decode cX1_init 40 = .ok (.aload_n 2, 1) := by decide +kernel
theorem dX1_init_41 : decode cX1_init 41 = .ok (.putfield 28, 3) := by decide +kernel
theorem dX1_init_44 : decode cX1_init 44 = .ok (.aload_n 0, 1) := by decide +kernel
theorem dX1_init_45 : decode cX1_init 45 = .ok (.aload_n 3, 1) := by decide +kernel
theorem dX1_init_46 : decode cX1_init 46 = .ok (.putfield 32, 3) := by decide +kernel
theorem dX1_init_49 : decode cX1_init 49 = .ok (.return_, 1) := by decide +kernel
theorem dX1_recount_0 : decode cX1_recount 0 = .ok (.iconst 0, 1) := by decide +kernel
theorem dX1_recount_1 : decode cX1_recount 1 = .ok (.istore_n 1, 1) := by decide +kernel
theorem dX1_recount_2 : decode cX1_recount 2 = .ok (.iload_n 1, 1) := by decide +kernel
theorem dX1_recount_3 : decode cX1_recount 3 = .ok (.aload_n 0, 1) := by decide +kernel
theorem dX1_recount_4 : decode cX1_recount 4 = .ok (.getfield 25, 3) := by decide +kernel
theorem dX1_recount_7 : decode cX1_recount 7 = .ok (.if_icmp .ge 59, 3) := by decide +kernel
theorem dX1_recount_10 : decode cX1_recount 10 = .ok (.aload_n 0, 1) := by decide +kernel
theorem dX1_recount_11 : decode cX1_recount 11 = .ok (.getfield 32, 3) := by decide +kernel
theorem dX1_recount_14 : decode cX1_recount 14 = .ok (.iload_n 1, 1) := by decide +kernel
theorem dX1_recount_15 : decode cX1_recount 15 = .ok (.invokevirtual 36, 3) := by decide +kernel
theorem dX1_recount_18 : decode cX1_recount 18 = .ok (.istore_n 2, 1) := by decide +kernel
theorem dX1_recount_19 : decode cX1_recount 19 = .ok (.iconst 0, 1) := by decide +kernel
theorem dX1_recount_20 : decode cX1_recount 20 = .ok (.istore_n 3, 1) := by decide +kernel
theorem dX1_recount_21 : decode cX1_recount 21 = .ok (.iload_n 3, 1) := by decide +kernel
theorem dX1_recount_22 : decode cX1_recount 22 = .ok (.iconst 5, 1) := by decide +kernel
theorem dX1_recount_23 : decode cX1_recount 23 = .ok (.if_icmp .ge 37, 3) := by decide +kernel
theorem dX1_recount_26 : decode cX1_recount 26 = .ok (.aload_n 0, 1) := by decide +kernel
theorem dX1_recount_27 : decode cX1_recount 27 = .ok (.getfield 15, 3) := by decide +kernel
theorem dX1_recount_30 : decode cX1_recount 30 = .ok (.iload_n 3, 1) := by decide +kernel
theorem dX1_recount_31 : decode cX1_recount 31 = .ok (.iload_n 1, 1) := by decide +kernel
theorem dX1_recount_32 : decode cX1_recount 32 = .ok (.invokestatic 42, 3) := by decide +kernel
theorem dX1_recount_35 : decode cX1_recount 35 = .ok (.iload_n 2, 1) := by decide +kernel
theorem dX1_recount_36 : decode cX1_recount 36 = .ok (.iload_n 3, 1) := by decide +kernel
theorem dX1_recount_37 : decode cX1_recount 37 = .ok (.invokestatic 46, 3) := by decide +kernel
theorem dX1_recount_40 : decode cX1_recount 40 = .ok (.ifCond .eq 12, 3) := by decide +kernel
theorem dX1_recount_43 : decode cX1_recount 43 = .ok (.aload_n 0, 1) := by decide +kernel
theorem dX1_recount_44 : decode cX1_recount 44 = .ok (.iload_n 3, 1) := by decide +kernel
theorem dX1_recount_45 : decode cX1_recount 45 = .ok (.iload_n 1, 1) := by decide +kernel
theorem dX1_recount_46 : decode cX1_recount 46 = .ok (.invokevirtual 50, 3) := by decide +kernel
theorem dX1_recount_49 : decode cX1_recount 49 = .ok (.goto 4, 3) := by decide +kernel
theorem dX1_recount_52 : decode cX1_recount 52 = .ok (.lconst 0, 1) := by decide +kernel
theorem dX1_recount_53 : decode cX1_recount 53 = .ok (.lastore, 1) := by decide +kernel
theorem dX1_recount_54 : decode cX1_recount 54 = .ok (.iinc 3 1, 3) := by decide +kernel
theorem dX1_recount_57 : decode cX1_recount 57 = .ok (.goto (-36), 3) := by decide +kernel
theorem dX1_recount_60 : decode cX1_recount 60 = .ok (.iinc 1 1, 3) := by decide +kernel
theorem dX1_recount_63 : decode cX1_recount 63 = .ok (.goto (-61), 3) := by decide +kernel
theorem dX1_recount_66 : decode cX1_recount 66 = .ok (.aload_n 0, 1) := by decide +kernel
theorem dX1_recount_67 : decode cX1_recount 67 = .ok (.getfield 25, 3) := by decide +kernel
theorem dX1_recount_70 : decode cX1_recount 70 = .ok (.iconst 1, 1) := by decide +kernel
theorem dX1_recount_71 : decode cX1_recount 71 = .ok (.isub, 1) := by decide +kernel
theorem dX1_recount_72 : decode cX1_recount 72 = .ok (.istore_n 1, 1) := by decide +kernel
theorem dX1_recount_73 : decode cX1_recount 73 = .ok (.iload_n 1, 1) := by decide +kernel
theorem dX1_recount_74 : decode cX1_recount 74 = .ok (.ifCond .lt 59, 3) := by decide +kernel
theorem dX1_recount_77 : decode cX1_recount 77 = .ok (.aload_n 0, 1) := by decide +kernel
theorem dX1_recount_78 : decode cX1_recount 78 = .ok (.getfield 32, 3) := by decide +kernel
theorem dX1_recount_81 : decode cX1_recount 81 = .ok (.iload_n 1, 1) := by decide +kernel
theorem dX1_recount_82 : decode cX1_recount 82 = .ok (.invokevirtual 36, 3) := by decide +kernel
theorem dX1_recount_85 : decode cX1_recount 85 = .ok (.istore_n 2, 1) := by decide +kernel
theorem dX1_recount_86 : decode cX1_recount 86 = .ok (.iconst 0, 1) := by decide +kernel
theorem dX1_recount_87 : decode cX1_recount 87 = .ok (.istore_n 3, 1) := by decide +kernel
theorem dX1_recount_88 : decode cX1_recount 88 = .ok (.iload_n 3, 1) := by decide +kernel
theorem dX1_recount_89 : decode cX1_recount 89 = .ok (.iconst 5, 1) := by decide +kernel
theorem dX1_recount_90 : decode cX1_recount 90 = .ok (.if_icmp .ge 37, 3) := by decide +kernel
theorem dX1_recount_93 : decode cX1_recount 93 = .ok (.aload_n 0, 1) := by decide +kernel
theorem dX1_recount_94 : decode cX1_recount 94 = .ok (.getfield 19, 3) := by decide +kernel
theorem dX1_recount_97 : decode cX1_recount 97 = .ok (.iload_n 3, 1) := by decide +kernel
theorem dX1_recount_98 : decode cX1_recount 98 = .ok (.iload_n 1, 1) := by decide +kernel
theorem dX1_recount_99 : decode cX1_recount 99 = .ok (.invokestatic 42, 3) := by decide +kernel
theorem dX1_recount_102 : decode cX1_recount 102 = .ok (.iload_n 2, 1) := by decide +kernel
theorem dX1_recount_103 : decode cX1_recount 103 = .ok (.iload_n 3, 1) := by decide +kernel
theorem dX1_recount_104 : decode cX1_recount 104 = .ok (.invokestatic 46, 3) := by decide +kernel
theorem dX1_recount_107 : decode cX1_recount 107 = .ok (.ifCond .eq 12, 3) := by decide +kernel
theorem dX1_recount_110 : decode cX1_recount 110 = .ok (.aload_n 0, 1) := by decide +kernel
theorem dX1_recount_111 : decode cX1_recount 111 = .ok (.iload_n 3, 1) := by decide +kernel
theorem dX1_recount_112 : decode cX1_recount 112 = .ok (.iload_n 1, 1) := by decide +kernel
theorem dX1_recount_113 : decode cX1_recount 113 = .ok (.invokevirtual 54, 3) := by decide +kernel
theorem dX1_recount_116 : decode cX1_recount 116 = .ok (.goto 4, 3) := by decide +kernel
theorem dX1_recount_119 : decode cX1_recount 119 = .ok (.lconst 0, 1) := by decide +kernel
theorem dX1_recount_120 : decode cX1_recount 120 = .ok (.lastore, 1) := by decide +kernel
theorem dX1_recount_121 : decode cX1_recount 121 = .ok (.iinc 3 1, 3) := by decide +kernel
theorem dX1_recount_124 : decode cX1_recount 124 = .ok (.goto (-36), 3) := by decide +kernel
theorem dX1_recount_127 : decode cX1_recount 127 = .ok (.iinc 1 (-1), 3) := by decide +kernel
theorem dX1_recount_130 : decode cX1_recount 130 = .ok (.goto (-57), 3) := by decide +kernel
theorem dX1_recount_133 : decode cX1_recount 133 = .ok (.return_, 1) := by decide +kernel
theorem dX1_beginningsTo_0 : decode cX1_beginningsTo 0 = .ok (.iload_n 2, 1) := by decide +kernel
theorem dX1_beginningsTo_1 : decode cX1_beginningsTo 1 = .ok (.ifCond .ne 20, 3) := by decide +kernel
theorem dX1_beginningsTo_4 : decode cX1_beginningsTo 4 = .ok (.aload_n 0, 1) := by decide +kernel
theorem dX1_beginningsTo_5 : decode cX1_beginningsTo 5 = .ok (.getfield 9, 3) := by decide +kernel
theorem dX1_beginningsTo_8 : decode cX1_beginningsTo 8 = .ok (.iload_n 1, 1) := by decide +kernel
theorem dX1_beginningsTo_9 : decode cX1_beginningsTo 9 = .ok (.invokestatic 46, 3) := by decide +kernel
theorem dX1_beginningsTo_12 : decode cX1_beginningsTo 12 = .ok (.ifCond .eq 7, 3) := by decide +kernel
theorem dX1_beginningsTo_15 : decode cX1_beginningsTo 15 = .ok (.lconst 1, 1) := by decide +kernel
theorem dX1_beginningsTo_16 : decode cX1_beginningsTo 16 = .ok (.goto 4, 3) := by decide +kernel
theorem dX1_beginningsTo_19 : decode cX1_beginningsTo 19 = .ok (.lconst 0, 1) := by decide +kernel
theorem dX1_beginningsTo_20 : decode cX1_beginningsTo 20 = .ok (.lreturn, 1) := by decide +kernel
theorem dX1_beginningsTo_21 : decode cX1_beginningsTo 21 = .ok (.aload_n 0, 1) := by decide +kernel
theorem dX1_beginningsTo_22 : decode cX1_beginningsTo 22 = .ok (.aload_n 0, 1) := by decide +kernel
theorem dX1_beginningsTo_23 : decode cX1_beginningsTo 23 = .ok (.getfield 15, 3) := by decide +kernel
theorem dX1_beginningsTo_26 : decode cX1_beginningsTo 26 = .ok (.iload_n 1, 1) := by decide +kernel
theorem dX1_beginningsTo_27 : decode cX1_beginningsTo 27 = .ok (.iload_n 2, 1) := by decide +kernel
theorem dX1_beginningsTo_28 : decode cX1_beginningsTo 28 = .ok (.invokevirtual 57, 3) := by decide +kernel
theorem dX1_beginningsTo_31 : decode cX1_beginningsTo 31 = .ok (.lreturn, 1) := by decide +kernel
theorem dX1_endsFrom_0 : decode cX1_endsFrom 0 = .ok (.iload_n 2, 1) := by decide +kernel
theorem dX1_endsFrom_1 : decode cX1_endsFrom 1 = .ok (.aload_n 0, 1) := by decide +kernel
theorem dX1_endsFrom_2 : decode cX1_endsFrom 2 = .ok (.getfield 25, 3) := by decide +kernel
theorem dX1_endsFrom_5 : decode cX1_endsFrom 5 = .ok (.iconst 1, 1) := by decide +kernel
theorem dX1_endsFrom_6 : decode cX1_endsFrom 6 = .ok (.isub, 1) := by decide +kernel
theorem dX1_endsFrom_7 : decode cX1_endsFrom 7 = .ok (.if_icmp .ne 5, 3) := by decide +kernel
theorem dX1_endsFrom_10 : decode cX1_endsFrom 10 = .ok (.lconst 1, 1) := by decide +kernel
theorem dX1_endsFrom_11 : decode cX1_endsFrom 11 = .ok (.lreturn, 1) := by decide +kernel
theorem dX1_endsFrom_12 : decode cX1_endsFrom 12 = .ok (.aload_n 0, 1) := by decide +kernel
theorem dX1_endsFrom_13 : decode cX1_endsFrom 13 = .ok (.aload_n 0, 1) := by decide +kernel
theorem dX1_endsFrom_14 : decode cX1_endsFrom 14 = .ok (.getfield 19, 3) := by decide +kernel
theorem dX1_endsFrom_17 : decode cX1_endsFrom 17 = .ok (.iload_n 1, 1) := by decide +kernel
theorem dX1_endsFrom_18 : decode cX1_endsFrom 18 = .ok (.iload_n 2, 1) := by decide +kernel
theorem dX1_endsFrom_19 : decode cX1_endsFrom 19 = .ok (.invokevirtual 61, 3) := by decide +kernel
theorem dX1_endsFrom_22 : decode cX1_endsFrom 22 = .ok (.lreturn, 1) := by decide +kernel
theorem dX1_sumBefore_0 : decode cX1_sumBefore 0 = .ok (.lconst 0, 1) := by decide +kernel
theorem dX1_sumBefore_1 : decode cX1_sumBefore 1 = .ok (.lstore 4, 2) := by decide +kernel
theorem dX1_sumBefore_3 : decode cX1_sumBefore 3 = .ok (.iconst 0, 1) := by decide +kernel
theorem dX1_sumBefore_4 : decode cX1_sumBefore 4 = .ok (.istore 6, 2) := by decide +kernel
theorem dX1_sumBefore_6 : decode cX1_sumBefore 6 = .ok (.iload 6, 2) := by decide +kernel
theorem dX1_sumBefore_8 : decode cX1_sumBefore 8 = .ok (.iconst 5, 1) := by decide +kernel
theorem dX1_sumBefore_9 : decode cX1_sumBefore 9 = .ok (.if_icmp .ge 40, 3) := by decide +kernel
theorem dX1_sumBefore_12 : decode cX1_sumBefore 12 = .ok (.aload_n 0, 1) := by decide +kernel
theorem dX1_sumBefore_13 : decode cX1_sumBefore 13 = .ok (.getfield 28, 3) := by decide +kernel
theorem dX1_sumBefore_16 : decode cX1_sumBefore 16 = .ok (.iload 6, 2) := by decide +kernel
theorem dX1_sumBefore_18 : decode cX1_sumBefore 18 = .ok (.iload_n 2, 1) := by decide +kernel
theorem dX1_sumBefore_19 : decode cX1_sumBefore 19 = .ok (.iload_n 3, 1) := by decide +kernel
theorem dX1_sumBefore_20 : decode cX1_sumBefore 20 = .ok (.iconst 1, 1) := by decide +kernel
theorem dX1_sumBefore_21 : decode cX1_sumBefore 21 = .ok (.isub, 1) := by decide +kernel
theorem dX1_sumBefore_22 : decode cX1_sumBefore 22 = .ok (.invokevirtual 64, 3) := by decide +kernel
theorem dX1_sumBefore_25 : decode cX1_sumBefore 25 = .ok (.ifCond .eq 18, 3) := by decide +kernel
theorem dX1_sumBefore_28 : decode cX1_sumBefore 28 = .ok (.lload 4, 2) := by decide +kernel
theorem dX1_sumBefore_30 : decode cX1_sumBefore 30 = .ok (.aload_n 1, 1) := by decide +kernel
theorem dX1_sumBefore_31 : decode cX1_sumBefore 31 = .ok (.iload 6, 2) := by decide +kernel
theorem dX1_sumBefore_33 : decode cX1_sumBefore 33 = .ok (.iload_n 3, 1) := by decide +kernel
theorem dX1_sumBefore_34 : decode cX1_sumBefore 34 = .ok (.iconst 1, 1) := by decide +kernel
theorem dX1_sumBefore_35 : decode cX1_sumBefore 35 = .ok (.isub, 1) := by decide +kernel
theorem dX1_sumBefore_36 : decode cX1_sumBefore 36 = .ok (.invokestatic 42, 3) := by decide +kernel
theorem dX1_sumBefore_39 : decode cX1_sumBefore 39 = .ok (.laload, 1) := by decide +kernel
theorem dX1_sumBefore_40 : decode cX1_sumBefore 40 = .ok (.ladd, 1) := by decide +kernel
theorem dX1_sumBefore_41 : decode cX1_sumBefore 41 = .ok (.lstore 4, 2) := by decide +kernel
theorem dX1_sumBefore_43 : decode cX1_sumBefore 43 = .ok (.iinc 6 1, 3) := by decide +kernel
theorem dX1_sumBefore_46 : decode cX1_sumBefore 46 = .ok (.goto (-40), 3) := by decide +kernel
theorem dX1_sumBefore_49 : decode cX1_sumBefore 49 = .ok (.lload 4, 2) := by decide +kernel
theorem dX1_sumBefore_51 : decode cX1_sumBefore 51 = .ok (.lreturn, 1) := by decide +kernel
theorem dX1_sumBehind_0 : decode cX1_sumBehind 0 = .ok (.lconst 0, 1) := by decide +kernel
theorem dX1_sumBehind_1 : decode cX1_sumBehind 1 = .ok (.lstore 4, 2) := by decide +kernel
theorem dX1_sumBehind_3 : decode cX1_sumBehind 3 = .ok (.iconst 0, 1) := by decide +kernel
theorem dX1_sumBehind_4 : decode cX1_sumBehind 4 = .ok (.istore 6, 2) := by decide +kernel
theorem dX1_sumBehind_6 : decode cX1_sumBehind 6 = .ok (.iload 6, 2) := by decide +kernel
theorem dX1_sumBehind_8 : decode cX1_sumBehind 8 = .ok (.iconst 5, 1) := by decide +kernel
theorem dX1_sumBehind_9 : decode cX1_sumBehind 9 = .ok (.if_icmp .ge 38, 3) := by decide +kernel
theorem dX1_sumBehind_12 : decode cX1_sumBehind 12 = .ok (.aload_n 0, 1) := by decide +kernel
theorem dX1_sumBehind_13 : decode cX1_sumBehind 13 = .ok (.getfield 28, 3) := by decide +kernel
theorem dX1_sumBehind_16 : decode cX1_sumBehind 16 = .ok (.iload_n 2, 1) := by decide +kernel
theorem dX1_sumBehind_17 : decode cX1_sumBehind 17 = .ok (.iload 6, 2) := by decide +kernel
theorem dX1_sumBehind_19 : decode cX1_sumBehind 19 = .ok (.iload_n 3, 1) := by decide +kernel
theorem dX1_sumBehind_20 : decode cX1_sumBehind 20 = .ok (.invokevirtual 64, 3) := by decide +kernel
theorem dX1_sumBehind_23 : decode cX1_sumBehind 23 = .ok (.ifCond .eq 18, 3) := by decide +kernel
theorem dX1_sumBehind_26 : decode cX1_sumBehind 26 = .ok (.lload 4, 2) := by decide +kernel
theorem dX1_sumBehind_28 : decode cX1_sumBehind 28 = .ok (.aload_n 1, 1) := by decide +kernel
theorem dX1_sumBehind_29 : decode cX1_sumBehind 29 = .ok (.iload 6, 2) := by decide +kernel
theorem dX1_sumBehind_31 : decode cX1_sumBehind 31 = .ok (.iload_n 3, 1) := by decide +kernel
theorem dX1_sumBehind_32 : decode cX1_sumBehind 32 = .ok (.iconst 1, 1) := by decide +kernel
theorem dX1_sumBehind_33 : decode cX1_sumBehind 33 = .ok (.iadd, 1) := by decide +kernel
theorem dX1_sumBehind_34 : decode cX1_sumBehind 34 = .ok (.invokestatic 42, 3) := by decide +kernel
theorem dX1_sumBehind_37 : decode cX1_sumBehind 37 = .ok (.laload, 1) := by decide +kernel
theorem dX1_sumBehind_38 : decode cX1_sumBehind 38 = .ok (.ladd, 1) := by decide +kernel
theorem dX1_sumBehind_39 : decode cX1_sumBehind 39 = .ok (.lstore 4, 2) := by decide +kernel
theorem dX1_sumBehind_41 : decode cX1_sumBehind 41 = .ok (.iinc 6 1, 3) := by decide +kernel
theorem dX1_sumBehind_44 : decode cX1_sumBehind 44 = .ok (.goto (-38), 3) := by decide +kernel
theorem dX1_sumBehind_47 : decode cX1_sumBehind 47 = .ok (.lload 4, 2) := by decide +kernel
theorem dX1_sumBehind_49 : decode cX1_sumBehind 49 = .ok (.lreturn, 1) := by decide +kernel
theorem dX1_total_0 : decode cX1_total 0 = .ok (.lconst 0, 1) := by decide +kernel
theorem dX1_total_1 : decode cX1_total 1 = .ok (.lstore_n 1, 1) := by decide +kernel
theorem dX1_total_2 : decode cX1_total 2 = .ok (.iconst 0, 1) := by decide +kernel
theorem dX1_total_3 : decode cX1_total 3 = .ok (.istore_n 3, 1) := by decide +kernel
theorem dX1_total_4 : decode cX1_total 4 = .ok (.iload_n 3, 1) := by decide +kernel
theorem dX1_total_5 : decode cX1_total 5 = .ok (.iconst 5, 1) := by decide +kernel
theorem dX1_total_6 : decode cX1_total 6 = .ok (.if_icmp .ge 21, 3) := by decide +kernel
theorem dX1_total_9 : decode cX1_total 9 = .ok (.lload_n 1, 1) := by decide +kernel
theorem dX1_total_10 : decode cX1_total 10 = .ok (.aload_n 0, 1) := by decide +kernel
theorem dX1_total_11 : decode cX1_total 11 = .ok (.iload_n 3, 1) := by decide +kernel
theorem dX1_total_12 : decode cX1_total 12 = .ok (.iconst 0, 1) := by decide +kernel
theorem dX1_total_13 : decode cX1_total 13 = .ok (.invokestatic 42, 3) := by decide +kernel
theorem dX1_total_16 : decode cX1_total 16 = .ok (.invokevirtual 70, 3) := by decide +kernel
theorem dX1_total_19 : decode cX1_total 19 = .ok (.ladd, 1) := by decide +kernel
theorem dX1_total_20 : decode cX1_total 20 = .ok (.lstore_n 1, 1) := by decide +kernel
theorem dX1_total_21 : decode cX1_total 21 = .ok (.iinc 3 1, 3) := by decide +kernel
theorem dX1_total_24 : decode cX1_total 24 = .ok (.goto (-20), 3) := by decide +kernel
theorem dX1_total_27 : decode cX1_total 27 = .ok (.lload_n 1, 1) := by decide +kernel
theorem dX1_total_28 : decode cX1_total 28 = .ok (.lreturn, 1) := by decide +kernel
theorem dX1_through_0 : decode cX1_through 0 = .ok (.aload_n 0, 1) := by decide +kernel
theorem dX1_through_1 : decode cX1_through 1 = .ok (.getfield 15, 3) := by decide +kernel
theorem dX1_through_4 : decode cX1_through 4 = .ok (.iload_n 1, 1) := by decide +kernel
theorem dX1_through_5 : decode cX1_through 5 = .ok (.laload, 1) := by decide +kernel
theorem dX1_through_6 : decode cX1_through 6 = .ok (.aload_n 0, 1) := by decide +kernel
theorem dX1_through_7 : decode cX1_through 7 = .ok (.getfield 19, 3) := by decide +kernel
theorem dX1_through_10 : decode cX1_through 10 = .ok (.iload_n 1, 1) := by decide +kernel
theorem dX1_through_11 : decode cX1_through 11 = .ok (.laload, 1) := by decide +kernel
theorem dX1_through_12 : decode cX1_through 12 = .ok (.lmul, 1) := by decide +kernel
theorem dX1_through_13 : decode cX1_through 13 = .ok (.lreturn, 1) := by decide +kernel
theorem dX1_countWith_0 : decode cX1_countWith 0 = .ok (.iload_n 1, 1) := by decide +kernel
theorem dX1_countWith_1 : decode cX1_countWith 1 = .ok (.iload_n 2, 1) := by decide +kernel
theorem dX1_countWith_2 : decode cX1_countWith 2 = .ok (.invokestatic 42, 3) := by decide +kernel
theorem dX1_countWith_5 : decode cX1_countWith 5 = .ok (.istore_n 3, 1) := by decide +kernel
theorem dX1_countWith_6 : decode cX1_countWith 6 = .ok (.aload_n 0, 1) := by decide +kernel
theorem dX1_countWith_7 : decode cX1_countWith 7 = .ok (.getfield 22, 3) := by decide +kernel
theorem dX1_countWith_10 : decode cX1_countWith 10 = .ok (.lconst 0, 1) := by decide +kernel
theorem dX1_countWith_11 : decode cX1_countWith 11 = .ok (.invokestatic 74, 3) := by decide +kernel
theorem dX1_countWith_14 : decode cX1_countWith 14 = .ok (.aload_n 0, 1) := by decide +kernel
theorem dX1_countWith_15 : decode cX1_countWith 15 = .ok (.getfield 22, 3) := by decide +kernel
theorem dX1_countWith_18 : decode cX1_countWith 18 = .ok (.iload_n 3, 1) := by decide +kernel
theorem dX1_countWith_19 : decode cX1_countWith 19 = .ok (.lconst 1, 1) := by decide +kernel
theorem dX1_countWith_20 : decode cX1_countWith 20 = .ok (.lastore, 1) := by decide +kernel
theorem dX1_countWith_21 : decode cX1_countWith 21 = .ok (.iload_n 2, 1) := by decide +kernel
theorem dX1_countWith_22 : decode cX1_countWith 22 = .ok (.iconst 1, 1) := by decide +kernel
theorem dX1_countWith_23 : decode cX1_countWith 23 = .ok (.iadd, 1) := by decide +kernel
theorem dX1_countWith_24 : decode cX1_countWith 24 = .ok (.istore 4, 2) := by decide +kernel
theorem dX1_countWith_26 : decode cX1_countWith 26 = .ok (.iload 4, 2) := by decide +kernel
theorem dX1_countWith_28 : decode cX1_countWith 28 = .ok (.aload_n 0, 1) := by decide +kernel
theorem dX1_countWith_29 : decode cX1_countWith 29 = .ok (.getfield 25, 3) := by decide +kernel
theorem dX1_countWith_32 : decode cX1_countWith 32 = .ok (.if_icmp .ge 65, 3) := by decide +kernel
theorem dX1_countWith_35 : decode cX1_countWith 35 = .ok (.iconst 0, 1) := by decide +kernel
theorem dX1_countWith_36 : decode cX1_countWith 36 = .ok (.istore 5, 2) := by decide +kernel
theorem dX1_countWith_38 : decode cX1_countWith 38 = .ok (.iload 5, 2) := by decide +kernel
theorem dX1_countWith_40 : decode cX1_countWith 40 = .ok (.iconst 5, 1) := by decide +kernel
theorem dX1_countWith_41 : decode cX1_countWith 41 = .ok (.if_icmp .ge 50, 3) := by decide +kernel
theorem dX1_countWith_44 : decode cX1_countWith 44 = .ok (.aload_n 0, 1) := by decide +kernel
theorem dX1_countWith_45 : decode cX1_countWith 45 = .ok (.getfield 19, 3) := by decide +kernel
theorem dX1_countWith_48 : decode cX1_countWith 48 = .ok (.iload 5, 2) := by decide +kernel
theorem dX1_countWith_50 : decode cX1_countWith 50 = .ok (.iload 4, 2) := by decide +kernel
theorem dX1_countWith_52 : decode cX1_countWith 52 = .ok (.invokestatic 42, 3) := by decide +kernel
theorem dX1_countWith_55 : decode cX1_countWith 55 = .ok (.laload, 1) := by decide +kernel
theorem dX1_countWith_56 : decode cX1_countWith 56 = .ok (.lconst 0, 1) := by decide +kernel
theorem dX1_countWith_57 : decode cX1_countWith 57 = .ok (.lcmp, 1) := by decide +kernel
theorem dX1_countWith_58 : decode cX1_countWith 58 = .ok (.ifCond .eq 27, 3) := by decide +kernel
theorem dX1_countWith_61 : decode cX1_countWith 61 = .ok (.aload_n 0, 1) := by decide +kernel
theorem dX1_countWith_62 : decode cX1_countWith 62 = .ok (.getfield 22, 3) := by decide +kernel
theorem dX1_countWith_65 : decode cX1_countWith 65 = .ok (.iload 5, 2) := by decide +kernel
theorem dX1_countWith_67 : decode cX1_countWith 67 = .ok (.iload 4, 2) := by decide +kernel
theorem dX1_countWith_69 : decode cX1_countWith 69 = .ok (.invokestatic 42, 3) := by decide +kernel
theorem dX1_countWith_72 : decode cX1_countWith 72 = .ok (.aload_n 0, 1) := by decide +kernel
theorem dX1_countWith_73 : decode cX1_countWith 73 = .ok (.aload_n 0, 1) := by decide +kernel
theorem dX1_countWith_74 : decode cX1_countWith 74 = .ok (.getfield 22, 3) := by decide +kernel
theorem dX1_countWith_77 : decode cX1_countWith 77 = .ok (.iload 5, 2) := by decide +kernel
theorem dX1_countWith_79 : decode cX1_countWith 79 = .ok (.iload 4, 2) := by decide +kernel
theorem dX1_countWith_81 : decode cX1_countWith 81 = .ok (.invokevirtual 57, 3) := by decide +kernel
theorem dX1_countWith_84 : decode cX1_countWith 84 = .ok (.lastore, 1) := by decide +kernel
theorem dX1_countWith_85 : decode cX1_countWith 85 = .ok (.iinc 5 1, 3) := by decide +kernel
theorem dX1_countWith_88 : decode cX1_countWith 88 = .ok (.goto (-50), 3) := by decide +kernel
theorem dX1_countWith_91 : decode cX1_countWith 91 = .ok (.iinc 4 1, 3) := by decide +kernel
theorem dX1_countWith_94 : decode cX1_countWith 94 = .ok (.goto (-68), 3) := by decide +kernel
theorem dX1_countWith_97 : decode cX1_countWith 97 = .ok (.iload_n 2, 1) := by decide +kernel
theorem dX1_countWith_98 : decode cX1_countWith 98 = .ok (.iconst 1, 1) := by decide +kernel
theorem dX1_countWith_99 : decode cX1_countWith 99 = .ok (.isub, 1) := by decide +kernel
theorem dX1_countWith_100 : decode cX1_countWith 100 = .ok (.istore 4, 2) := by decide +kernel
theorem dX1_countWith_102 : decode cX1_countWith 102 = .ok (.iload 4, 2) := by decide +kernel
theorem dX1_countWith_104 : decode cX1_countWith 104 = .ok (.ifCond .lt 65, 3) := by decide +kernel
theorem dX1_countWith_107 : decode cX1_countWith 107 = .ok (.iconst 0, 1) := by decide +kernel
theorem dX1_countWith_108 : decode cX1_countWith 108 = .ok (.istore 5, 2) := by decide +kernel
theorem dX1_countWith_110 : decode cX1_countWith 110 = .ok (.iload 5, 2) := by decide +kernel
theorem dX1_countWith_112 : decode cX1_countWith 112 = .ok (.iconst 5, 1) := by decide +kernel
theorem dX1_countWith_113 : decode cX1_countWith 113 = .ok (.if_icmp .ge 50, 3) := by decide +kernel
theorem dX1_countWith_116 : decode cX1_countWith 116 = .ok (.aload_n 0, 1) := by decide +kernel
theorem dX1_countWith_117 : decode cX1_countWith 117 = .ok (.getfield 15, 3) := by decide +kernel
theorem dX1_countWith_120 : decode cX1_countWith 120 = .ok (.iload 5, 2) := by decide +kernel
theorem dX1_countWith_122 : decode cX1_countWith 122 = .ok (.iload 4, 2) := by decide +kernel
theorem dX1_countWith_124 : decode cX1_countWith 124 = .ok (.invokestatic 42, 3) := by decide +kernel
theorem dX1_countWith_127 : decode cX1_countWith 127 = .ok (.laload, 1) := by decide +kernel
theorem dX1_countWith_128 : decode cX1_countWith 128 = .ok (.lconst 0, 1) := by decide +kernel
theorem dX1_countWith_129 : decode cX1_countWith 129 = .ok (.lcmp, 1) := by decide +kernel
theorem dX1_countWith_130 : decode cX1_countWith 130 = .ok (.ifCond .eq 27, 3) := by decide +kernel
theorem dX1_countWith_133 : decode cX1_countWith 133 = .ok (.aload_n 0, 1) := by decide +kernel
theorem dX1_countWith_134 : decode cX1_countWith 134 = .ok (.getfield 22, 3) := by decide +kernel
theorem dX1_countWith_137 : decode cX1_countWith 137 = .ok (.iload 5, 2) := by decide +kernel
theorem dX1_countWith_139 : decode cX1_countWith 139 = .ok (.iload 4, 2) := by decide +kernel
theorem dX1_countWith_141 : decode cX1_countWith 141 = .ok (.invokestatic 42, 3) := by decide +kernel
theorem dX1_countWith_144 : decode cX1_countWith 144 = .ok (.aload_n 0, 1) := by decide +kernel
theorem dX1_countWith_145 : decode cX1_countWith 145 = .ok (.aload_n 0, 1) := by decide +kernel
theorem dX1_countWith_146 : decode cX1_countWith 146 = .ok (.getfield 22, 3) := by decide +kernel
theorem dX1_countWith_149 : decode cX1_countWith 149 = .ok (.iload 5, 2) := by decide +kernel
theorem dX1_countWith_151 : decode cX1_countWith 151 = .ok (.iload 4, 2) := by decide +kernel
theorem dX1_countWith_153 : decode cX1_countWith 153 = .ok (.invokevirtual 61, 3) := by decide +kernel
theorem dX1_countWith_156 : decode cX1_countWith 156 = .ok (.lastore, 1) := by decide +kernel
theorem dX1_countWith_157 : decode cX1_countWith 157 = .ok (.iinc 5 1, 3) := by decide +kernel
theorem dX1_countWith_160 : decode cX1_countWith 160 = .ok (.goto (-50), 3) := by decide +kernel
theorem dX1_countWith_163 : decode cX1_countWith 163 = .ok (.iinc 4 (-1), 3) := by decide +kernel
theorem dX1_countWith_166 : decode cX1_countWith 166 = .ok (.goto (-64), 3) := by decide +kernel
theorem dX1_countWith_169 : decode cX1_countWith 169 = .ok (.iconst 0, 1) := by decide +kernel
theorem dX1_countWith_170 : decode cX1_countWith 170 = .ok (.istore 4, 2) := by decide +kernel
theorem dX1_countWith_172 : decode cX1_countWith 172 = .ok (.iload 4, 2) := by decide +kernel
theorem dX1_countWith_174 : decode cX1_countWith 174 = .ok (.aload_n 0, 1) := by decide +kernel
theorem dX1_countWith_175 : decode cX1_countWith 175 = .ok (.getfield 25, 3) := by decide +kernel
theorem dX1_countWith_178 : decode cX1_countWith 178 = .ok (.iconst 5, 1) := by decide +kernel
theorem dX1_countWith_179 : decode cX1_countWith 179 = .ok (.imul, 1) := by decide +kernel
theorem dX1_countWith_180 : decode cX1_countWith 180 = .ok (.if_icmp .ge 50, 3) := by decide +kernel
theorem dX1_countWith_183 : decode cX1_countWith 183 = .ok (.iload_n 3, 1) := by decide +kernel
theorem dX1_countWith_184 : decode cX1_countWith 184 = .ok (.iload 4, 2) := by decide +kernel
theorem dX1_countWith_186 : decode cX1_countWith 186 = .ok (.invokestatic 80, 3) := by decide +kernel
theorem dX1_countWith_189 : decode cX1_countWith 189 = .ok (.istore 5, 2) := by decide +kernel
theorem dX1_countWith_191 : decode cX1_countWith 191 = .ok (.iload_n 3, 1) := by decide +kernel
theorem dX1_countWith_192 : decode cX1_countWith 192 = .ok (.iload 4, 2) := by decide +kernel
theorem dX1_countWith_194 : decode cX1_countWith 194 = .ok (.invokestatic 85, 3) := by decide +kernel
theorem dX1_countWith_197 : decode cX1_countWith 197 = .ok (.istore 6, 2) := by decide +kernel
theorem dX1_countWith_199 : decode cX1_countWith 199 = .ok (.aload_n 0, 1) := by decide +kernel
theorem dX1_countWith_200 : decode cX1_countWith 200 = .ok (.getfield 22, 3) := by decide +kernel
theorem dX1_countWith_203 : decode cX1_countWith 203 = .ok (.iload 4, 2) := by decide +kernel
theorem dX1_countWith_205 : decode cX1_countWith 205 = .ok (.dup2, 1) := by decide +kernel
theorem dX1_countWith_206 : decode cX1_countWith 206 = .ok (.laload, 1) := by decide +kernel
theorem dX1_countWith_207 : decode cX1_countWith 207 = .ok (.aload_n 0, 1) := by decide +kernel
theorem dX1_countWith_208 : decode cX1_countWith 208 = .ok (.getfield 15, 3) := by decide +kernel
theorem dX1_countWith_211 : decode cX1_countWith 211 = .ok (.iload 5, 2) := by decide +kernel
theorem dX1_countWith_213 : decode cX1_countWith 213 = .ok (.laload, 1) := by decide +kernel
theorem dX1_countWith_214 : decode cX1_countWith 214 = .ok (.aload_n 0, 1) := by decide +kernel
theorem dX1_countWith_215 : decode cX1_countWith 215 = .ok (.getfield 19, 3) := by decide +kernel
theorem dX1_countWith_218 : decode cX1_countWith 218 = .ok (.iload 6, 2) := by decide +kernel
theorem dX1_countWith_220 : decode cX1_countWith 220 = .ok (.laload, 1) := by decide +kernel
theorem dX1_countWith_221 : decode cX1_countWith 221 = .ok (.lmul, 1) := by decide +kernel
theorem dX1_countWith_222 : decode cX1_countWith 222 = .ok (.lmul, 1) := by decide +kernel
theorem dX1_countWith_223 : decode cX1_countWith 223 = .ok (.lastore, 1) := by decide +kernel
theorem dX1_countWith_224 : decode cX1_countWith 224 = .ok (.iinc 4 1, 3) := by decide +kernel
theorem dX1_countWith_227 : decode cX1_countWith 227 = .ok (.goto (-55), 3) := by decide +kernel
theorem dX1_countWith_230 : decode cX1_countWith 230 = .ok (.return_, 1) := by decide +kernel
theorem dX1_landOf_0 : decode cX1_landOf 0 = .ok (.iload_n 1, 1) := by decide +kernel
theorem dX1_landOf_1 : decode cX1_landOf 1 = .ok (.i2l, 1) := by decide +kernel
theorem dX1_landOf_2 : decode cX1_landOf 2 = .ok (.lstore_n 3, 1) := by decide +kernel
theorem dX1_landOf_3 : decode cX1_landOf 3 = .ok (.iconst (-1), 1) := by decide +kernel
theorem dX1_landOf_4 : decode cX1_landOf 4 = .ok (.istore 5, 2) := by decide +kernel
theorem dX1_landOf_6 : decode cX1_landOf 6 = .ok (.iconst 0, 1) := by decide +kernel
theorem dX1_landOf_7 : decode cX1_landOf 7 = .ok (.istore 6, 2) := by decide +kernel
theorem dX1_landOf_9 : decode cX1_landOf 9 = .ok (.iload 6, 2) := by decide +kernel
theorem dX1_landOf_11 : decode cX1_landOf 11 = .ok (.iload_n 2, 1) := by decide +kernel
theorem dX1_landOf_12 : decode cX1_landOf 12 = .ok (.if_icmp .gt 68, 3) := by decide +kernel
theorem dX1_landOf_15 : decode cX1_landOf 15 = .ok (.iload 5, 2) := by decide +kernel
theorem dX1_landOf_17 : decode cX1_landOf 17 = .ok (.istore 7, 2) := by decide +kernel
theorem dX1_landOf_19 : decode cX1_landOf 19 = .ok (.iconst (-1), 1) := by decide +kernel
theorem dX1_landOf_20 : decode cX1_landOf 20 = .ok (.istore 5, 2) := by decide +kernel
theorem dX1_landOf_22 : decode cX1_landOf 22 = .ok (.iconst 0, 1) := by decide +kernel
theorem dX1_landOf_23 : decode cX1_landOf 23 = .ok (.istore 8, 2) := by decide +kernel
theorem dX1_landOf_25 : decode cX1_landOf 25 = .ok (.iload 8, 2) := by decide +kernel
theorem dX1_landOf_27 : decode cX1_landOf 27 = .ok (.iconst 5, 1) := by decide +kernel
theorem dX1_landOf_28 : decode cX1_landOf 28 = .ok (.if_icmp .ge 46, 3) := by decide +kernel
theorem dX1_landOf_31 : decode cX1_landOf 31 = .ok (.iload 5, 2) := by decide +kernel
theorem dX1_landOf_33 : decode cX1_landOf 33 = .ok (.iconst (-1), 1) := by decide +kernel
theorem dX1_landOf_34 : decode cX1_landOf 34 = .ok (.if_icmp .ne 40, 3) := by decide +kernel
theorem dX1_landOf_37 : decode cX1_landOf 37 = .ok (.aload_n 0, 1) := by decide +kernel
theorem dX1_landOf_38 : decode cX1_landOf 38 = .ok (.iload 8, 2) := by decide +kernel
theorem dX1_landOf_40 : decode cX1_landOf 40 = .ok (.iload 6, 2) := by decide +kernel
theorem dX1_landOf_42 : decode cX1_landOf 42 = .ok (.iload 7, 2) := by decide +kernel
theorem dX1_landOf_44 : decode cX1_landOf 44 = .ok (.invokevirtual 88, 3) := by decide +kernel
theorem dX1_landOf_47 : decode cX1_landOf 47 = .ok (.lstore 9, 2) := by decide +kernel
theorem dX1_landOf_49 : decode cX1_landOf 49 = .ok (.lload_n 3, 1) := by decide +kernel
theorem dX1_landOf_50 : decode cX1_landOf 50 = .ok (.lload 9, 2) := by decide +kernel
theorem dX1_landOf_52 : decode cX1_landOf 52 = .ok (.lcmp, 1) := by decide +kernel
theorem dX1_landOf_53 : decode cX1_landOf 53 = .ok (.ifCond .ge 10, 3) := by decide +kernel
theorem dX1_landOf_56 : decode cX1_landOf 56 = .ok (.iload 8, 2) := by decide +kernel
theorem dX1_landOf_58 : decode cX1_landOf 58 = .ok (.istore 5, 2) := by decide +kernel
theorem dX1_landOf_60 : decode cX1_landOf 60 = .ok (.goto 8, 3) := by decide +kernel
theorem dX1_landOf_63 : decode cX1_landOf 63 = .ok (.lload_n 3, 1) := by decide +kernel
theorem dX1_landOf_64 : decode cX1_landOf 64 = .ok (.lload 9, 2) := by decide +kernel
theorem dX1_landOf_66 : decode cX1_landOf 66 = .ok (.lsub, 1) := by decide +kernel
theorem dX1_landOf_67 : decode cX1_landOf 67 = .ok (.lstore_n 3, 1) := by decide +kernel
theorem dX1_landOf_68 : decode cX1_landOf 68 = .ok (.iinc 8 1, 3) := by decide +kernel
theorem dX1_landOf_71 : decode cX1_landOf 71 = .ok (.goto (-46), 3) := by decide +kernel
theorem dX1_landOf_74 : decode cX1_landOf 74 = .ok (.iinc 6 1, 3) := by decide +kernel
theorem dX1_landOf_77 : decode cX1_landOf 77 = .ok (.goto (-68), 3) := by decide +kernel
theorem dX1_landOf_80 : decode cX1_landOf 80 = .ok (.iload 5, 2) := by decide +kernel
theorem dX1_landOf_82 : decode cX1_landOf 82 = .ok (.ireturn, 1) := by decide +kernel
theorem dX1_goingTo_0 : decode cX1_goingTo 0 = .ok (.iload_n 2, 1) := by decide +kernel
theorem dX1_goingTo_1 : decode cX1_goingTo 1 = .ok (.ifCond .ne 13, 3) := by decide +kernel
theorem dX1_goingTo_4 : decode cX1_goingTo 4 = .ok (.aload_n 0, 1) := by decide +kernel
theorem dX1_goingTo_5 : decode cX1_goingTo 5 = .ok (.iload_n 1, 1) := by decide +kernel
theorem dX1_goingTo_6 : decode cX1_goingTo 6 = .ok (.iconst 0, 1) := by decide +kernel
theorem dX1_goingTo_7 : decode cX1_goingTo 7 = .ok (.invokestatic 42, 3) := by decide +kernel
theorem dX1_goingTo_10 : decode cX1_goingTo 10 = .ok (.invokevirtual 70, 3) := by decide +kernel
theorem dX1_goingTo_13 : decode cX1_goingTo 13 = .ok (.lreturn, 1) := by decide +kernel
theorem dX1_goingTo_14 : decode cX1_goingTo 14 = .ok (.iload_n 3, 1) := by decide +kernel
theorem dX1_goingTo_15 : decode cX1_goingTo 15 = .ok (.iconst (-1), 1) := by decide +kernel
theorem dX1_goingTo_16 : decode cX1_goingTo 16 = .ok (.if_icmp .eq 18, 3) := by decide +kernel
theorem dX1_goingTo_19 : decode cX1_goingTo 19 = .ok (.aload_n 0, 1) := by decide +kernel
theorem dX1_goingTo_20 : decode cX1_goingTo 20 = .ok (.getfield 28, 3) := by decide +kernel
theorem dX1_goingTo_23 : decode cX1_goingTo 23 = .ok (.iload_n 3, 1) := by decide +kernel
theorem dX1_goingTo_24 : decode cX1_goingTo 24 = .ok (.iload_n 1, 1) := by decide +kernel
theorem dX1_goingTo_25 : decode cX1_goingTo 25 = .ok (.iload_n 2, 1) := by decide +kernel
theorem dX1_goingTo_26 : decode cX1_goingTo 26 = .ok (.iconst 1, 1) := by decide +kernel
theorem dX1_goingTo_27 : decode cX1_goingTo 27 = .ok (.isub, 1) := by decide +kernel
theorem dX1_goingTo_28 : decode cX1_goingTo 28 = .ok (.invokevirtual 64, 3) := by decide +kernel
theorem dX1_goingTo_31 : decode cX1_goingTo 31 = .ok (.ifCond .ne 5, 3) := by decide +kernel
theorem dX1_goingTo_34 : decode cX1_goingTo 34 = .ok (.lconst 0, 1) := by decide +kernel
theorem dX1_goingTo_35 : decode cX1_goingTo 35 = .ok (.lreturn, 1) := by decide +kernel
theorem dX1_goingTo_36 : decode cX1_goingTo 36 = .ok (.aload_n 0, 1) := by decide +kernel
theorem dX1_goingTo_37 : decode cX1_goingTo 37 = .ok (.getfield 19, 3) := by decide +kernel
theorem dX1_goingTo_40 : decode cX1_goingTo 40 = .ok (.iload_n 1, 1) := by decide +kernel
theorem dX1_goingTo_41 : decode cX1_goingTo 41 = .ok (.iload_n 2, 1) := by decide +kernel
theorem dX1_goingTo_42 : decode cX1_goingTo 42 = .ok (.invokestatic 42, 3) := by decide +kernel
theorem dX1_goingTo_45 : decode cX1_goingTo 45 = .ok (.laload, 1) := by decide +kernel
theorem dX1_goingTo_46 : decode cX1_goingTo 46 = .ok (.lreturn, 1) := by decide +kernel
theorem dX2_init_0 : decode cX2_init 0 = .ok (.aload_n 0, 1) := by decide +kernel
theorem dX2_init_1 : decode cX2_init 1 = .ok (.invokespecial 3, 3) := by decide +kernel
theorem dX2_init_4 : decode cX2_init 4 = .ok (.aload_n 0, 1) := by decide +kernel
theorem dX2_init_5 : decode cX2_init 5 = .ok (.iload_n 1, 1) := by decide +kernel
theorem dX2_init_6 : decode cX2_init 6 = .ok (.putfield 9, 3) := by decide +kernel
theorem dX2_init_9 : decode cX2_init 9 = .ok (.aload_n 0, 1) := by decide +kernel
theorem dX2_init_10 : decode cX2_init 10 = .ok (.aload_n 2, 1) := by decide +kernel
theorem dX2_init_11 : decode cX2_init 11 = .ok (.putfield 15, 3) := by decide +kernel
theorem dX2_init_14 : decode cX2_init 14 = .ok (.return_, 1) := by decide +kernel
theorem dX2_worstOf_0 : decode cX2_worstOf 0 = .ok (.aload_n 0, 1) := by decide +kernel
theorem dX2_worstOf_1 : decode cX2_worstOf 1 = .ok (.getfield 15, 3) := by decide +kernel
theorem dX2_worstOf_4 : decode cX2_worstOf 4 = .ok (.iload_n 1, 1) := by decide +kernel
theorem dX2_worstOf_5 : decode cX2_worstOf 5 = .ok (.invokevirtual 19, 3) := by decide +kernel
theorem dX2_worstOf_8 : decode cX2_worstOf 8 = .ok (.lstore_n 2, 1) := by decide +kernel
theorem dX2_worstOf_9 : decode cX2_worstOf 9 = .ok (.lload_n 2, 1) := by decide +kernel
theorem dX2_worstOf_10 : decode cX2_worstOf 10 = .ok (.aload_n 0, 1) := by decide +kernel
theorem dX2_worstOf_11 : decode cX2_worstOf 11 = .ok (.getfield 15, 3) := by decide +kernel
theorem dX2_worstOf_14 : decode cX2_worstOf 14 = .ok (.invokevirtual 25, 3) := by decide +kernel
theorem dX2_worstOf_17 : decode cX2_worstOf 17 = .ok (.lload_n 2, 1) := by decide +kernel
theorem dX2_worstOf_18 : decode cX2_worstOf 18 = .ok (.lsub, 1) := by decide +kernel
theorem dX2_worstOf_19 : decode cX2_worstOf 19 = .ok (.invokestatic 29, 3) := by decide +kernel
theorem dX2_worstOf_22 : decode cX2_worstOf 22 = .ok (.lreturn, 1) := by decide +kernel
theorem dX2_best_0 : decode cX2_best 0 = .ok (.aload_n 0, 1) := by decide +kernel
theorem dX2_best_1 : decode cX2_best 1 = .ok (.getfield 15, 3) := by decide +kernel
theorem dX2_best_4 : decode cX2_best 4 = .ok (.invokevirtual 25, 3) := by decide +kernel
theorem dX2_best_7 : decode cX2_best 7 = .ok (.lstore_n 1, 1) := by decide +kernel
theorem dX2_best_8 : decode cX2_best 8 = .ok (.lload_n 1, 1) := by decide +kernel
theorem dX2_best_9 : decode cX2_best 9 = .ok (.lstore_n 3, 1) := by decide +kernel
theorem dX2_best_10 : decode cX2_best 10 = .ok (.iconst (-1), 1) := by decide +kernel
theorem dX2_best_11 : decode cX2_best 11 = .ok (.istore 5, 2) := by decide +kernel
theorem dX2_best_13 : decode cX2_best 13 = .ok (.iconst 0, 1) := by decide +kernel
theorem dX2_best_14 : decode cX2_best 14 = .ok (.istore 6, 2) := by decide +kernel
theorem dX2_best_16 : decode cX2_best 16 = .ok (.iload 6, 2) := by decide +kernel
theorem dX2_best_18 : decode cX2_best 18 = .ok (.aload_n 0, 1) := by decide +kernel
theorem dX2_best_19 : decode cX2_best 19 = .ok (.getfield 9, 3) := by decide +kernel
theorem dX2_best_22 : decode cX2_best 22 = .ok (.iconst 5, 1) := by decide +kernel
theorem dX2_best_23 : decode cX2_best 23 = .ok (.imul, 1) := by decide +kernel
theorem dX2_best_24 : decode cX2_best 24 = .ok (.if_icmp .ge 45, 3) := by decide +kernel
theorem dX2_best_27 : decode cX2_best 27 = .ok (.aload_n 0, 1) := by decide +kernel
theorem dX2_best_28 : decode cX2_best 28 = .ok (.getfield 15, 3) := by decide +kernel
theorem dX2_best_31 : decode cX2_best 31 = .ok (.iload 6, 2) := by decide +kernel
theorem dX2_best_33 : decode cX2_best 33 = .ok (.invokevirtual 19, 3) := by decide +kernel
theorem dX2_best_36 : decode cX2_best 36 = .ok (.lstore 7, 2) := by decide +kernel
theorem dX2_best_38 : decode cX2_best 38 = .ok (.lload 7, 2) := by decide +kernel
theorem dX2_best_40 : decode cX2_best 40 = .ok (.lload_n 1, 1) := by decide +kernel
theorem dX2_best_41 : decode cX2_best 41 = .ok (.lload 7, 2) := by decide +kernel
theorem dX2_best_43 : decode cX2_best 43 = .ok (.lsub, 1) := by decide +kernel
theorem dX2_best_44 : decode cX2_best 44 = .ok (.invokestatic 29, 3) := by decide +kernel
theorem dX2_best_47 : decode cX2_best 47 = .ok (.lstore 9, 2) := by decide +kernel
theorem dX2_best_49 : decode cX2_best 49 = .ok (.lload 9, 2) := by decide +kernel
theorem dX2_best_51 : decode cX2_best 51 = .ok (.lload_n 3, 1) := by decide +kernel
theorem dX2_best_52 : decode cX2_best 52 = .ok (.lcmp, 1) := by decide +kernel
theorem dX2_best_53 : decode cX2_best 53 = .ok (.ifCond .ge 10, 3) := by decide +kernel
theorem dX2_best_56 : decode cX2_best 56 = .ok (.lload 9, 2) := by decide +kernel
theorem dX2_best_58 : decode cX2_best 58 = .ok (.lstore_n 3, 1) := by decide +kernel
theorem dX2_best_59 : decode cX2_best 59 = .ok (.iload 6, 2) := by decide +kernel
theorem dX2_best_61 : decode cX2_best 61 = .ok (.istore 5, 2) := by decide +kernel
theorem dX2_best_63 : decode cX2_best 63 = .ok (.iinc 6 1, 3) := by decide +kernel
theorem dX2_best_66 : decode cX2_best 66 = .ok (.goto (-50), 3) := by decide +kernel
theorem dX2_best_69 : decode cX2_best 69 = .ok (.iload 5, 2) := by decide +kernel
theorem dX2_best_71 : decode cX2_best 71 = .ok (.invokestatic 35, 3) := by decide +kernel
theorem dX2_best_74 : decode cX2_best 74 = .ok (.ireturn, 1) := by decide +kernel
theorem dX2_worstWithNext_0 : decode cX2_worstWithNext 0 = .ok (.aload_n 0, 1) := by decide +kernel
theorem dX2_worstWithNext_1 : decode cX2_worstWithNext 1 = .ok (.getfield 15, 3) := by decide +kernel
theorem dX2_worstWithNext_4 : decode cX2_worstWithNext 4 = .ok (.iload_n 1, 1) := by decide +kernel
theorem dX2_worstWithNext_5 : decode cX2_worstWithNext 5 = .ok (.iload_n 2, 1) := by decide +kernel
theorem dX2_worstWithNext_6 : decode cX2_worstWithNext 6 = .ok (.invokevirtual 39, 3) := by decide +kernel
theorem dX2_worstWithNext_9 : decode cX2_worstWithNext 9 = .ok (.aload_n 0, 1) := by decide +kernel
theorem dX2_worstWithNext_10 : decode cX2_worstWithNext 10 = .ok (.getfield 15, 3) := by decide +kernel
theorem dX2_worstWithNext_13 : decode cX2_worstWithNext 13 = .ok (.iload_n 1, 1) := by decide +kernel
theorem dX2_worstWithNext_14 : decode cX2_worstWithNext 14 = .ok (.iload_n 2, 1) := by decide +kernel
theorem dX2_worstWithNext_15 : decode cX2_worstWithNext 15 = .ok (.invokestatic 43, 3) := by decide +kernel
theorem dX2_worstWithNext_18 : decode cX2_worstWithNext 18 = .ok (.invokevirtual 19, 3) := by decide +kernel
theorem dX2_worstWithNext_21 : decode cX2_worstWithNext 21 = .ok (.lstore_n 3, 1) := by decide +kernel
theorem dX2_worstWithNext_22 : decode cX2_worstWithNext 22 = .ok (.aload_n 0, 1) := by decide +kernel
theorem dX2_worstWithNext_23 : decode cX2_worstWithNext 23 = .ok (.getfield 15, 3) := by decide +kernel
theorem dX2_worstWithNext_26 : decode cX2_worstWithNext 26 = .ok (.invokevirtual 25, 3) := by decide +kernel
theorem dX2_worstWithNext_29 : decode cX2_worstWithNext 29 = .ok (.lload_n 3, 1) := by decide +kernel
theorem dX2_worstWithNext_30 : decode cX2_worstWithNext 30 = .ok (.lsub, 1) := by decide +kernel
theorem dX2_worstWithNext_31 : decode cX2_worstWithNext 31 = .ok (.lstore 5, 2) := by decide +kernel
theorem dX2_worstWithNext_33 : decode cX2_worstWithNext 33 = .ok (.lload_n 3, 1) := by decide +kernel
theorem dX2_worstWithNext_34 : decode cX2_worstWithNext 34 = .ok (.lstore 7, 2) := by decide +kernel
theorem dX2_worstWithNext_36 : decode cX2_worstWithNext 36 = .ok (.lload 5, 2) := by decide +kernel
theorem dX2_worstWithNext_38 : decode cX2_worstWithNext 38 = .ok (.lstore 9, 2) := by decide +kernel
theorem dX2_worstWithNext_40 : decode cX2_worstWithNext 40 = .ok (.iconst 0, 1) := by decide +kernel
theorem dX2_worstWithNext_41 : decode cX2_worstWithNext 41 = .ok (.istore 11, 2) := by decide +kernel
theorem dX2_worstWithNext_43 : decode cX2_worstWithNext 43 = .ok (.iload 11, 2) := by decide +kernel
theorem dX2_worstWithNext_45 : decode cX2_worstWithNext 45 = .ok (.aload_n 0, 1) := by decide +kernel
theorem dX2_worstWithNext_46 : decode cX2_worstWithNext 46 = .ok (.getfield 9, 3) := by decide +kernel
theorem dX2_worstWithNext_49 : decode cX2_worstWithNext 49 = .ok (.iconst 5, 1) := by decide +kernel
theorem dX2_worstWithNext_50 : decode cX2_worstWithNext 50 = .ok (.imul, 1) := by decide +kernel
theorem dX2_worstWithNext_51 : decode cX2_worstWithNext 51 = .ok (.if_icmp .ge 68, 3) := by decide +kernel
theorem dX2_worstWithNext_54 : decode cX2_worstWithNext 54 = .ok (.aload_n 0, 1) := by decide +kernel
theorem dX2_worstWithNext_55 : decode cX2_worstWithNext 55 = .ok (.getfield 15, 3) := by decide +kernel
theorem dX2_worstWithNext_58 : decode cX2_worstWithNext 58 = .ok (.getfield 47, 3) := by decide +kernel
theorem dX2_worstWithNext_61 : decode cX2_worstWithNext 61 = .ok (.iload 11, 2) := by decide +kernel
theorem dX2_worstWithNext_63 : decode cX2_worstWithNext 63 = .ok (.laload, 1) := by decide +kernel
theorem dX2_worstWithNext_64 : decode cX2_worstWithNext 64 = .ok (.lstore 12, 2) := by decide +kernel
theorem dX2_worstWithNext_66 : decode cX2_worstWithNext 66 = .ok (.aload_n 0, 1) := by decide +kernel
theorem dX2_worstWithNext_67 : decode cX2_worstWithNext 67 = .ok (.getfield 15, 3) := by decide +kernel
theorem dX2_worstWithNext_70 : decode cX2_worstWithNext 70 = .ok (.iload 11, 2) := by decide +kernel
theorem dX2_worstWithNext_72 : decode cX2_worstWithNext 72 = .ok (.invokevirtual 19, 3) := by decide +kernel
theorem dX2_worstWithNext_75 : decode cX2_worstWithNext 75 = .ok (.lload 12, 2) := by decide +kernel
theorem dX2_worstWithNext_77 : decode cX2_worstWithNext 77 = .ok (.lsub, 1) := by decide +kernel
theorem dX2_worstWithNext_78 : decode cX2_worstWithNext 78 = .ok (.lstore 14, 2) := by decide +kernel
theorem dX2_worstWithNext_80 : decode cX2_worstWithNext 80 = .ok (.lload 7, 2) := by decide +kernel
theorem dX2_worstWithNext_82 : decode cX2_worstWithNext 82 = .ok (.lload 12, 2) := by decide +kernel
theorem dX2_worstWithNext_84 : decode cX2_worstWithNext 84 = .ok (.lload_n 3, 1) := by decide +kernel
theorem dX2_worstWithNext_85 : decode cX2_worstWithNext 85 = .ok (.lload 12, 2) := by decide +kernel
theorem dX2_worstWithNext_87 : decode cX2_worstWithNext 87 = .ok (.lsub, 1) := by decide +kernel
theorem dX2_worstWithNext_88 : decode cX2_worstWithNext 88 = .ok (.invokestatic 29, 3) := by decide +kernel
theorem dX2_worstWithNext_91 : decode cX2_worstWithNext 91 = .ok (.invokestatic 51, 3) := by decide +kernel
theorem dX2_worstWithNext_94 : decode cX2_worstWithNext 94 = .ok (.lstore 7, 2) := by decide +kernel
theorem dX2_worstWithNext_96 : decode cX2_worstWithNext 96 = .ok (.lload 9, 2) := by decide +kernel
theorem dX2_worstWithNext_98 : decode cX2_worstWithNext 98 = .ok (.lload 14, 2) := by decide +kernel
theorem dX2_worstWithNext_100 : decode cX2_worstWithNext 100 = .ok (.lload 5, 2) := by decide +kernel
theorem dX2_worstWithNext_102 : decode cX2_worstWithNext 102 = .ok (.lload 14, 2) := by decide +kernel
theorem dX2_worstWithNext_104 : decode cX2_worstWithNext 104 = .ok (.lsub, 1) := by decide +kernel
theorem dX2_worstWithNext_105 : decode cX2_worstWithNext 105 = .ok (.invokestatic 29, 3) := by decide +kernel
theorem dX2_worstWithNext_108 : decode cX2_worstWithNext 108 = .ok (.invokestatic 51, 3) := by decide +kernel
theorem dX2_worstWithNext_111 : decode cX2_worstWithNext 111 = .ok (.lstore 9, 2) := by decide +kernel
theorem dX2_worstWithNext_113 : decode cX2_worstWithNext 113 = .ok (.iinc 11 1, 3) := by decide +kernel
theorem dX2_worstWithNext_116 : decode cX2_worstWithNext 116 = .ok (.goto (-73), 3) := by decide +kernel
theorem dX2_worstWithNext_119 : decode cX2_worstWithNext 119 = .ok (.lload 7, 2) := by decide +kernel
theorem dX2_worstWithNext_121 : decode cX2_worstWithNext 121 = .ok (.lload 9, 2) := by decide +kernel
theorem dX2_worstWithNext_123 : decode cX2_worstWithNext 123 = .ok (.invokestatic 29, 3) := by decide +kernel
theorem dX2_worstWithNext_126 : decode cX2_worstWithNext 126 = .ok (.lreturn, 1) := by decide +kernel
theorem dX2_bestWithNext_0 : decode cX2_bestWithNext 0 = .ok (.aload_n 0, 1) := by decide +kernel
theorem dX2_bestWithNext_1 : decode cX2_bestWithNext 1 = .ok (.getfield 15, 3) := by decide +kernel
theorem dX2_bestWithNext_4 : decode cX2_bestWithNext 4 = .ok (.invokevirtual 25, 3) := by decide +kernel
theorem dX2_bestWithNext_7 : decode cX2_bestWithNext 7 = .ok (.lstore_n 1, 1) := by decide +kernel
theorem dX2_bestWithNext_8 : decode cX2_bestWithNext 8 = .ok (.iconst (-1), 1) := by decide +kernel
theorem dX2_bestWithNext_9 : decode cX2_bestWithNext 9 = .ok (.istore_n 3, 1) := by decide +kernel
theorem dX2_bestWithNext_10 : decode cX2_bestWithNext 10 = .ok (.iconst 0, 1) := by decide +kernel
theorem dX2_bestWithNext_11 : decode cX2_bestWithNext 11 = .ok (.istore 4, 2) := by decide +kernel
theorem dX2_bestWithNext_13 : decode cX2_bestWithNext 13 = .ok (.iload 4, 2) := by decide +kernel
theorem dX2_bestWithNext_15 : decode cX2_bestWithNext 15 = .ok (.aload_n 0, 1) := by decide +kernel
theorem dX2_bestWithNext_16 : decode cX2_bestWithNext 16 = .ok (.getfield 9, 3) := by decide +kernel
theorem dX2_bestWithNext_19 : decode cX2_bestWithNext 19 = .ok (.if_icmp .ge 52, 3) := by decide +kernel
theorem dX2_bestWithNext_22 : decode cX2_bestWithNext 22 = .ok (.iconst 0, 1) := by decide +kernel
theorem dX2_bestWithNext_23 : decode cX2_bestWithNext 23 = .ok (.istore 5, 2) := by decide +kernel
theorem dX2_bestWithNext_25 : decode cX2_bestWithNext 25 = .ok (.iload 5, 2) := by decide +kernel
theorem dX2_bestWithNext_27 : decode cX2_bestWithNext 27 = .ok (.iconst 5, 1) := by decide +kernel
theorem dX2_bestWithNext_28 : decode cX2_bestWithNext 28 = .ok (.if_icmp .ge 37, 3) := by decide +kernel
theorem dX2_bestWithNext_31 : decode cX2_bestWithNext 31 = .ok (.aload_n 0, 1) := by decide +kernel
theorem dX2_bestWithNext_32 : decode cX2_bestWithNext 32 = .ok (.iload 5, 2) := by decide +kernel
theorem dX2_bestWithNext_34 : decode cX2_bestWithNext 34 = .ok (.iload 4, 2) := by decide +kernel
theorem dX2_bestWithNext_36 : decode cX2_bestWithNext 36 = .ok (.invokevirtual 54, 3) := by decide +kernel
theorem dX2_bestWithNext_39 : decode cX2_bestWithNext 39 = .ok (.lstore 6, 2) := by decide +kernel
theorem dX2_bestWithNext_41 : decode cX2_bestWithNext 41 = .ok (.lload 6, 2) := by decide +kernel
theorem dX2_bestWithNext_43 : decode cX2_bestWithNext 43 = .ok (.lload_n 1, 1) := by decide +kernel
theorem dX2_bestWithNext_44 : decode cX2_bestWithNext 44 = .ok (.lcmp, 1) := by decide +kernel
theorem dX2_bestWithNext_45 : decode cX2_bestWithNext 45 = .ok (.ifCond .ge 14, 3) := by decide +kernel
theorem dX2_bestWithNext_48 : decode cX2_bestWithNext 48 = .ok (.lload 6, 2) := by decide +kernel
theorem dX2_bestWithNext_50 : decode cX2_bestWithNext 50 = .ok (.lstore_n 1, 1) := by decide +kernel
theorem dX2_bestWithNext_51 : decode cX2_bestWithNext 51 = .ok (.iload 5, 2) := by decide +kernel
theorem dX2_bestWithNext_53 : decode cX2_bestWithNext 53 = .ok (.iload 4, 2) := by decide +kernel
theorem dX2_bestWithNext_55 : decode cX2_bestWithNext 55 = .ok (.invokestatic 43, 3) := by decide +kernel
theorem dX2_bestWithNext_58 : decode cX2_bestWithNext 58 = .ok (.istore_n 3, 1) := by decide +kernel
theorem dX2_bestWithNext_59 : decode cX2_bestWithNext 59 = .ok (.iinc 5 1, 3) := by decide +kernel
theorem dX2_bestWithNext_62 : decode cX2_bestWithNext 62 = .ok (.goto (-37), 3) := by decide +kernel
theorem dX2_bestWithNext_65 : decode cX2_bestWithNext 65 = .ok (.iinc 4 1, 3) := by decide +kernel
theorem dX2_bestWithNext_68 : decode cX2_bestWithNext 68 = .ok (.goto (-55), 3) := by decide +kernel
theorem dX2_bestWithNext_71 : decode cX2_bestWithNext 71 = .ok (.iload_n 3, 1) := by decide +kernel
theorem dX2_bestWithNext_72 : decode cX2_bestWithNext 72 = .ok (.invokestatic 35, 3) := by decide +kernel
theorem dX2_bestWithNext_75 : decode cX2_bestWithNext 75 = .ok (.ireturn, 1) := by decide +kernel
theorem dX2_told_0 : decode cX2_told 0 = .ok (.iload_n 0, 1) := by decide +kernel
theorem dX2_told_1 : decode cX2_told 1 = .ok (.iconst (-1), 1) := by decide +kernel
theorem dX2_told_2 : decode cX2_told 2 = .ok (.if_icmp .ne 7, 3) := by decide +kernel
theorem dX2_told_5 : decode cX2_told 5 = .ok (.iconst (-1), 1) := by decide +kernel
theorem dX2_told_6 : decode cX2_told 6 = .ok (.goto 13, 3) := by decide +kernel
theorem dX2_told_9 : decode cX2_told 9 = .ok (.bipush 10, 2) := by decide +kernel
theorem dX2_told_11 : decode cX2_told 11 = .ok (.iload_n 0, 1) := by decide +kernel
theorem dX2_told_12 : decode cX2_told 12 = .ok (.iconst 5, 1) := by decide +kernel
theorem dX2_told_13 : decode cX2_told 13 = .ok (.idiv, 1) := by decide +kernel
theorem dX2_told_14 : decode cX2_told 14 = .ok (.imul, 1) := by decide +kernel
theorem dX2_told_15 : decode cX2_told 15 = .ok (.iload_n 0, 1) := by decide +kernel
theorem dX2_told_16 : decode cX2_told 16 = .ok (.iconst 5, 1) := by decide +kernel
theorem dX2_told_17 : decode cX2_told 17 = .ok (.irem, 1) := by decide +kernel
theorem dX2_told_18 : decode cX2_told 18 = .ok (.iadd, 1) := by decide +kernel
theorem dX2_told_19 : decode cX2_told 19 = .ok (.ireturn, 1) := by decide +kernel
theorem dX3_init_0 : decode cX3_init 0 = .ok (.aload_n 0, 1) := by decide +kernel
theorem dX3_init_1 : decode cX3_init 1 = .ok (.invokespecial 3, 3) := by decide +kernel
theorem dX3_init_4 : decode cX3_init 4 = .ok (.aload_n 0, 1) := by decide +kernel
theorem dX3_init_5 : decode cX3_init 5 = .ok (.bipush 6, 2) := by decide +kernel
theorem dX3_init_7 : decode cX3_init 7 = .ok (.anewarray 11, 3) := by decide +kernel
theorem dX3_init_10 : decode cX3_init 10 = .ok (.putfield 13, 3) := by decide +kernel
theorem dX3_init_13 : decode cX3_init 13 = .ok (.aload_n 0, 1) := by decide +kernel
theorem dX3_init_14 : decode cX3_init 14 = .ok (.bipush 20, 2) := by decide +kernel
theorem dX3_init_16 : decode cX3_init 16 = .ok (.newarray .int, 2) := by decide +kernel
theorem dX3_init_18 : decode cX3_init 18 = .ok (.putfield 17, 3) := by decide +kernel
theorem dX3_init_21 : decode cX3_init 21 = .ok (.aload_n 0, 1) := by decide +kernel
theorem dX3_init_22 : decode cX3_init 22 = .ok (.bipush 20, 2) := by decide +kernel
theorem dX3_init_24 : decode cX3_init 24 = .ok (.newarray .int, 2) := by decide +kernel
theorem dX3_init_26 : decode cX3_init 26 = .ok (.putfield 21, 3) := by decide +kernel
theorem dX3_init_29 : decode cX3_init 29 = .ok (.aload_n 0, 1) := by decide +kernel
theorem dX3_init_30 : decode cX3_init 30 = .ok (.bipush 20, 2) := by decide +kernel
theorem dX3_init_32 : decode cX3_init 32 = .ok (.newarray .int, 2) := by decide +kernel
theorem dX3_init_34 : decode cX3_init 34 = .ok (.putfield 24, 3) := by decide +kernel
theorem dX3_init_37 : decode cX3_init 37 = .ok (.aload_n 0, 1) := by decide +kernel
theorem dX3_init_38 : decode cX3_init 38 = .ok (.sipush 160, 3) := by decide +kernel
theorem dX3_init_41 : decode cX3_init 41 = .ok (.newarray .int, 2) := by decide +kernel
theorem dX3_init_43 : decode cX3_init 43 = .ok (.putfield 29, 3) := by decide +kernel
theorem dX3_init_46 : decode cX3_init 46 = .ok (.aload_n 0, 1) := by decide +kernel
theorem dX3_init_47 : decode cX3_init 47 = .ok (.bipush 6, 2) := by decide +kernel
theorem dX3_init_49 : decode cX3_init 49 = .ok (.newarray .int, 2) := by decide +kernel
theorem dX3_init_51 : decode cX3_init 51 = .ok (.putfield 32, 3) := by decide +kernel
theorem dX3_init_54 : decode cX3_init 54 = .ok (.aload_n 0, 1) := by decide +kernel
theorem dX3_init_55 : decode cX3_init 55 = .ok (.iload_n 1, 1) := by decide +kernel
theorem dX3_init_56 : decode cX3_init 56 = .ok (.putfield 35, 3) := by decide +kernel
theorem dX3_init_59 : decode cX3_init 59 = .ok (.aload_n 0, 1) := by decide +kernel
theorem dX3_init_60 : decode cX3_init 60 = .ok (.aload_n 2, 1) := by decide +kernel
theorem dX3_init_61 : decode cX3_init 61 = .ok (.putfield 39, 3) := by decide +kernel
theorem dX3_init_64 : decode cX3_init 64 = .ok (.aload_n 0, 1) := by decide +kernel
theorem dX3_init_65 : decode cX3_init 65 = .ok (.aload_n 3, 1) := by decide +kernel
theorem dX3_init_66 : decode cX3_init 66 = .ok (.putfield 43, 3) := by decide +kernel
theorem dX3_init_69 : decode cX3_init 69 = .ok (.aload_n 0, 1) := by decide +kernel
theorem dX3_init_70 : decode cX3_init 70 = .ok (.getfield 13, 3) := by decide +kernel
theorem dX3_init_73 : decode cX3_init 73 = .ok (.iconst 0, 1) := by decide +kernel
theorem dX3_init_74 : decode cX3_init 74 = .ok (.new 11, 3) := by decide +kernel
theorem dX3_init_77 : decode cX3_init 77 = .ok (.dup, 1) := by decide +kernel
theorem dX3_init_78 : decode cX3_init 78 = .ok (.iconst 2, 1) := by decide +kernel
theorem dX3_init_79 : decode cX3_init 79 = .ok (.newarray .int, 2) := by decide +kernel
theorem dX3_init_81 : decode cX3_init 81 = .ok (.dup, 1) := by decide +kernel
theorem dX3_init_82 : decode cX3_init 82 = .ok (.iconst 0, 1) := by decide +kernel
theorem dX3_init_83 : decode cX3_init 83 = .ok (.bipush (-6), 2) := by decide +kernel
theorem dX3_init_85 : decode cX3_init 85 = .ok (.iastore, 1) := by decide +kernel
theorem dX3_init_86 : decode cX3_init 86 = .ok (.dup, 1) := by decide +kernel
theorem dX3_init_87 : decode cX3_init 87 = .ok (.iconst 1, 1) := by decide +kernel
theorem dX3_init_88 : decode cX3_init 88 = .ok (.iconst 5, 1) := by decide +kernel
theorem dX3_init_89 : decode cX3_init 89 = .ok (.iastore, 1) := by decide +kernel
theorem dX3_init_90 : decode cX3_init 90 = .ok (.iconst 1, 1) := by decide +kernel
theorem dX3_init_91 : decode cX3_init 91 = .ok (.invokespecial 47, 3) := by decide +kernel
theorem dX3_init_94 : decode cX3_init 94 = .ok (.aastore, 1) := by decide +kernel
theorem dX3_init_95 : decode cX3_init 95 = .ok (.aload_n 0, 1) := by decide +kernel
theorem dX3_init_96 : decode cX3_init 96 = .ok (.iconst 1, 1) := by decide +kernel
theorem dX3_init_97 : decode cX3_init 97 = .ok (.putfield 50, 3) := by decide +kernel
theorem dX3_init_100 : decode cX3_init 100 = .ok (.return_, 1) := by decide +kernel
theorem dX3_addText_0 : decode cX3_addText 0 = .ok (.aload_n 0, 1) := by decide +kernel
theorem dX3_addText_1 : decode cX3_addText 1 = .ok (.getfield 13, 3) := by decide +kernel
theorem dX3_addText_4 : decode cX3_addText 4 = .ok (.aload_n 0, 1) := by decide +kernel
theorem dX3_addText_5 : decode cX3_addText 5 = .ok (.getfield 50, 3) := by decide +kernel
theorem dX3_addText_8 : decode cX3_addText 8 = .ok (.new 11, 3) := by decide +kernel
theorem dX3_addText_11 : decode cX3_addText 11 = .ok (.dup, 1) := by decide +kernel
theorem dX3_addText_12 : decode cX3_addText 12 = .ok (.aload_n 1, 1) := by decide +kernel
theorem dX3_addText_13 : decode cX3_addText 13 = .ok (.iload_n 2, 1) := by decide +kernel
theorem dX3_addText_14 : decode cX3_addText 14 = .ok (.invokespecial 47, 3) := by decide +kernel
theorem dX3_addText_17 : decode cX3_addText 17 = .ok (.aastore, 1) := by decide +kernel
theorem dX3_addText_18 : decode cX3_addText 18 = .ok (.aload_n 0, 1) := by decide +kernel
theorem dX3_addText_19 : decode cX3_addText 19 = .ok (.dup, 1) := by decide +kernel
theorem dX3_addText_20 : decode cX3_addText 20 = .ok (.getfield 50, 3) := by decide +kernel
theorem dX3_addText_23 : decode cX3_addText 23 = .ok (.dup_x1, 1) := by decide +kernel
theorem dX3_addText_24 : decode cX3_addText 24 = .ok (.iconst 1, 1) := by decide +kernel
theorem dX3_addText_25 : decode cX3_addText 25 = .ok (.iadd, 1) := by decide +kernel
theorem dX3_addText_26 : decode cX3_addText 26 = .ok (.putfield 50, 3) := by decide +kernel
theorem dX3_addText_29 : decode cX3_addText 29 = .ok (.ireturn, 1) := by decide +kernel
theorem dX3_add_0 : decode cX3_add 0 = .ok (.aload_n 0, 1) := by decide +kernel
theorem dX3_add_1 : decode cX3_add 1 = .ok (.getfield 17, 3) := by decide +kernel
theorem dX3_add_4 : decode cX3_add 4 = .ok (.aload_n 0, 1) := by decide +kernel
theorem dX3_add_5 : decode cX3_add 5 = .ok (.getfield 53, 3) := by decide +kernel
theorem dX3_add_8 : decode cX3_add 8 = .ok (.iload_n 1, 1) := by decide +kernel
theorem dX3_add_9 : decode cX3_add 9 = .ok (.iastore, 1) := by decide +kernel
theorem dX3_add_10 : decode cX3_add 10 = .ok (.aload_n 0, 1) := by decide +kernel
theorem dX3_add_11 : decode cX3_add 11 = .ok (.getfield 21, 3) := by decide +kernel
theorem dX3_add_14 : decode cX3_add 14 = .ok (.aload_n 0, 1) := by decide +kernel
theorem dX3_add_15 : decode cX3_add 15 = .ok (.getfield 53, 3) := by decide +kernel
theorem dX3_add_18 : decode cX3_add 18 = .ok (.iload_n 2, 1) := by decide +kernel
theorem dX3_add_19 : decode cX3_add 19 = .ok (.iastore, 1) := by decide +kernel
theorem dX3_add_20 : decode cX3_add 20 = .ok (.aload_n 0, 1) := by decide +kernel
theorem dX3_add_21 : decode cX3_add 21 = .ok (.getfield 24, 3) := by decide +kernel
theorem dX3_add_24 : decode cX3_add 24 = .ok (.aload_n 0, 1) := by decide +kernel
theorem dX3_add_25 : decode cX3_add 25 = .ok (.getfield 53, 3) := by decide +kernel
theorem dX3_add_28 : decode cX3_add 28 = .ok (.iload_n 3, 1) := by decide +kernel
theorem dX3_add_29 : decode cX3_add 29 = .ok (.iastore, 1) := by decide +kernel
theorem dX3_add_30 : decode cX3_add 30 = .ok (.aload_n 0, 1) := by decide +kernel
theorem dX3_add_31 : decode cX3_add 31 = .ok (.dup, 1) := by decide +kernel
theorem dX3_add_32 : decode cX3_add 32 = .ok (.getfield 53, 3) := by decide +kernel
theorem dX3_add_35 : decode cX3_add 35 = .ok (.dup_x1, 1) := by decide +kernel
theorem dX3_add_36 : decode cX3_add 36 = .ok (.iconst 1, 1) := by decide +kernel
theorem dX3_add_37 : decode cX3_add 37 = .ok (.iadd, 1) := by decide +kernel
theorem dX3_add_38 : decode cX3_add 38 = .ok (.putfield 53, 3) := by decide +kernel
theorem dX3_add_41 : decode cX3_add 41 = .ok (.ireturn, 1) := by decide +kernel
theorem dX3_textFor_0 : decode cX3_textFor 0 = .ok (.iconst 0, 1) := by decide +kernel
theorem dX3_textFor_1 : decode cX3_textFor 1 = .ok (.istore_n 3, 1) := by decide +kernel
theorem dX3_textFor_2 : decode cX3_textFor 2 = .ok (.iconst (-1), 1) := by decide +kernel
theorem dX3_textFor_3 : decode cX3_textFor 3 = .ok (.istore 4, 2) := by decide +kernel
theorem dX3_textFor_5 : decode cX3_textFor 5 = .ok (.iconst 0, 1) := by decide +kernel
theorem dX3_textFor_6 : decode cX3_textFor 6 = .ok (.istore 5, 2) := by decide +kernel
theorem dX3_textFor_8 : decode cX3_textFor 8 = .ok (.iload 5, 2) := by decide +kernel
theorem dX3_textFor_10 : decode cX3_textFor 10 = .ok (.aload_n 0, 1) := by decide +kernel
theorem dX3_textFor_11 : decode cX3_textFor 11 = .ok (.getfield 53, 3) := by decide +kernel
theorem dX3_textFor_14 : decode cX3_textFor 14 = .ok (.if_icmp .ge 60, 3) := by decide +kernel
theorem dX3_textFor_17 : decode cX3_textFor 17 = .ok (.aload_n 0, 1) := by decide +kernel
theorem dX3_textFor_18 : decode cX3_textFor 18 = .ok (.getfield 17, 3) := by decide +kernel
theorem dX3_textFor_21 : decode cX3_textFor 21 = .ok (.iload 5, 2) := by decide +kernel
theorem dX3_textFor_23 : decode cX3_textFor 23 = .ok (.iaload, 1) := by decide +kernel
theorem dX3_textFor_24 : decode cX3_textFor 24 = .ok (.iload_n 1, 1) := by decide +kernel
theorem dX3_textFor_25 : decode cX3_textFor 25 = .ok (.if_icmp .ne 43, 3) := by decide +kernel
theorem dX3_textFor_28 : decode cX3_textFor 28 = .ok (.aload_n 0, 1) := by decide +kernel
theorem dX3_textFor_29 : decode cX3_textFor 29 = .ok (.getfield 21, 3) := by decide +kernel
theorem dX3_textFor_32 : decode cX3_textFor 32 = .ok (.iload 5, 2) := by decide +kernel
theorem dX3_textFor_34 : decode cX3_textFor 34 = .ok (.iaload, 1) := by decide +kernel
theorem dX3_textFor_35 : decode cX3_textFor 35 = .ok (.iload_n 2, 1) := by decide +kernel
theorem dX3_textFor_36 : decode cX3_textFor 36 = .ok (.if_icmp .gt 32, 3) := by decide +kernel
theorem dX3_textFor_39 : decode cX3_textFor 39 = .ok (.aload_n 0, 1) := by decide +kernel
theorem dX3_textFor_40 : decode cX3_textFor 40 = .ok (.getfield 21, 3) := by decide +kernel
theorem dX3_textFor_43 : decode cX3_textFor 43 = .ok (.iload 5, 2) := by decide +kernel
theorem dX3_textFor_45 : decode cX3_textFor 45 = .ok (.iaload, 1) := by decide +kernel
theorem dX3_textFor_46 : decode cX3_textFor 46 = .ok (.iload 4, 2) := by decide +kernel
theorem dX3_textFor_48 : decode cX3_textFor 48 = .ok (.if_icmp .lt 20, 3) := by decide +kernel
theorem dX3_textFor_51 : decode cX3_textFor 51 = .ok (.aload_n 0, 1) := by decide +kernel
theorem dX3_textFor_52 : decode cX3_textFor 52 = .ok (.getfield 21, 3) := by decide +kernel
theorem dX3_textFor_55 : decode cX3_textFor 55 = .ok (.iload 5, 2) := by decide +kernel
theorem dX3_textFor_57 : decode cX3_textFor 57 = .ok (.iaload, 1) := by decide +kernel
theorem dX3_textFor_58 : decode cX3_textFor 58 = .ok (.istore 4, 2) := by decide +kernel
theorem dX3_textFor_60 : decode cX3_textFor 60 = .ok (.aload_n 0, 1) := by decide +kernel
theorem dX3_textFor_61 : decode cX3_textFor 61 = .ok (.getfield 24, 3) := by decide +kernel
theorem dX3_textFor_64 : decode cX3_textFor 64 = .ok (.iload 5, 2) := by decide +kernel
theorem dX3_textFor_66 : decode cX3_textFor 66 = .ok (.iaload, 1) := by decide +kernel
theorem dX3_textFor_67 : decode cX3_textFor 67 = .ok (.istore_n 3, 1) := by decide +kernel
theorem dX3_textFor_68 : decode cX3_textFor 68 = .ok (.iinc 5 1, 3) := by decide +kernel
theorem dX3_textFor_71 : decode cX3_textFor 71 = .ok (.goto (-63), 3) := by decide +kernel
theorem dX3_textFor_74 : decode cX3_textFor 74 = .ok (.iload_n 3, 1) := by decide +kernel
theorem dX3_textFor_75 : decode cX3_textFor 75 = .ok (.ireturn, 1) := by decide +kernel
theorem dX3_hold_0 : decode cX3_hold 0 = .ok (.aload_n 0, 1) := by decide +kernel
theorem dX3_hold_1 : decode cX3_hold 1 = .ok (.iload_n 1, 1) := by decide +kernel
theorem dX3_hold_2 : decode cX3_hold 2 = .ok (.iload_n 2, 1) := by decide +kernel
theorem dX3_hold_3 : decode cX3_hold 3 = .ok (.iload_n 3, 1) := by decide +kernel
theorem dX3_hold_4 : decode cX3_hold 4 = .ok (.invokevirtual 56, 3) := by decide +kernel
theorem dX3_hold_7 : decode cX3_hold 7 = .ok (.astore 4, 2) := by decide +kernel
theorem dX3_hold_9 : decode cX3_hold 9 = .ok (.aload_n 0, 1) := by decide +kernel
theorem dX3_hold_10 : decode cX3_hold 10 = .ok (.aload 4, 2) := by decide +kernel
theorem dX3_hold_12 : decode cX3_hold 12 = .ok (.getfield 60, 3) := by decide +kernel
theorem dX3_hold_15 : decode cX3_hold 15 = .ok (.iconst 0, 1) := by decide +kernel
theorem dX3_hold_16 : decode cX3_hold 16 = .ok (.aload 4, 2) := by decide +kernel
theorem dX3_hold_18 : decode cX3_hold 18 = .ok (.getfield 63, 3) := by decide +kernel
theorem dX3_hold_21 : decode cX3_hold 21 = .ok (.invokevirtual 66, 3) := by decide +kernel
theorem dX3_hold_24 : decode cX3_hold 24 = .ok (.ireturn, 1) := by decide +kernel
theorem dX3_limit_0 : decode cX3_limit 0 = .ok (.aload_n 0, 1) := by decide +kernel
theorem dX3_limit_1 : decode cX3_limit 1 = .ok (.iload_n 1, 1) := by decide +kernel
theorem dX3_limit_2 : decode cX3_limit 2 = .ok (.iload_n 2, 1) := by decide +kernel
theorem dX3_limit_3 : decode cX3_limit 3 = .ok (.iload_n 3, 1) := by decide +kernel
theorem dX3_limit_4 : decode cX3_limit 4 = .ok (.invokevirtual 56, 3) := by decide +kernel
theorem dX3_limit_7 : decode cX3_limit 7 = .ok (.astore 4, 2) := by decide +kernel
theorem dX3_limit_9 : decode cX3_limit 9 = .ok (.aload_n 0, 1) := by decide +kernel
theorem dX3_limit_10 : decode cX3_limit 10 = .ok (.aload 4, 2) := by decide +kernel
theorem dX3_limit_12 : decode cX3_limit 12 = .ok (.getfield 60, 3) := by decide +kernel
theorem dX3_limit_15 : decode cX3_limit 15 = .ok (.aload 4, 2) := by decide +kernel
theorem dX3_limit_17 : decode cX3_limit 17 = .ok (.getfield 63, 3) := by decide +kernel
theorem dX3_limit_20 : decode cX3_limit 20 = .ok (.aload 4, 2) := by decide +kernel
theorem dX3_limit_22 : decode cX3_limit 22 = .ok (.getfield 60, 3) := by decide +kernel
theorem dX3_limit_25 : decode cX3_limit 25 = .ok (.arraylength, 1) := by decide +kernel
theorem dX3_limit_26 : decode cX3_limit 26 = .ok (.invokevirtual 66, 3) := by decide +kernel
theorem dX3_limit_29 : decode cX3_limit 29 = .ok (.ireturn, 1) := by decide +kernel
theorem dX3_givesBack_0 : decode cX3_givesBack 0 = .ok (.aload_n 0, 1) := by decide +kernel
theorem dX3_givesBack_1 : decode cX3_givesBack 1 = .ok (.iload_n 1, 1) := by decide +kernel
theorem dX3_givesBack_2 : decode cX3_givesBack 2 = .ok (.iload_n 2, 1) := by decide +kernel
theorem dX3_givesBack_3 : decode cX3_givesBack 3 = .ok (.iload_n 3, 1) := by decide +kernel
theorem dX3_givesBack_4 : decode cX3_givesBack 4 = .ok (.invokevirtual 70, 3) := by decide +kernel
theorem dX3_givesBack_7 : decode cX3_givesBack 7 = .ok (.ifCond .ne 23, 3) := by decide +kernel
theorem dX3_givesBack_10 : decode cX3_givesBack 10 = .ok (.aload_n 0, 1) := by decide +kernel
theorem dX3_givesBack_11 : decode cX3_givesBack 11 = .ok (.getfield 35, 3) := by decide +kernel
theorem dX3_givesBack_14 : decode cX3_givesBack 14 = .ok (.iload_n 3, 1) := by decide +kernel
theorem dX3_givesBack_15 : decode cX3_givesBack 15 = .ok (.isub, 1) := by decide +kernel
theorem dX3_givesBack_16 : decode cX3_givesBack 16 = .ok (.aload_n 0, 1) := by decide +kernel
theorem dX3_givesBack_17 : decode cX3_givesBack 17 = .ok (.iload_n 1, 1) := by decide +kernel
theorem dX3_givesBack_18 : decode cX3_givesBack 18 = .ok (.iload_n 2, 1) := by decide +kernel
theorem dX3_givesBack_19 : decode cX3_givesBack 19 = .ok (.iload_n 3, 1) := by decide +kernel
theorem dX3_givesBack_20 : decode cX3_givesBack 20 = .ok (.invokevirtual 74, 3) := by decide +kernel
theorem dX3_givesBack_23 : decode cX3_givesBack 23 = .ok (.if_icmp .gt 7, 3) := by decide +kernel
theorem dX3_givesBack_26 : decode cX3_givesBack 26 = .ok (.iconst 1, 1) := by decide +kernel
theorem dX3_givesBack_27 : decode cX3_givesBack 27 = .ok (.goto 4, 3) := by decide +kernel
theorem dX3_givesBack_30 : decode cX3_givesBack 30 = .ok (.iconst 0, 1) := by decide +kernel
theorem dX3_givesBack_31 : decode cX3_givesBack 31 = .ok (.ireturn, 1) := by decide +kernel
theorem dX3_look_0 : decode cX3_look 0 = .ok (.aload_n 0, 1) := by decide +kernel
theorem dX3_look_1 : decode cX3_look 1 = .ok (.iconst (-1), 1) := by decide +kernel
theorem dX3_look_2 : decode cX3_look 2 = .ok (.iload_n 1, 1) := by decide +kernel
theorem dX3_look_3 : decode cX3_look 3 = .ok (.invokevirtual 77, 3) := by decide +kernel
theorem dX3_look_6 : decode cX3_look 6 = .ok (.aload_n 0, 1) := by decide +kernel
theorem dX3_look_7 : decode cX3_look 7 = .ok (.bipush (-2), 2) := by decide +kernel
theorem dX3_look_9 : decode cX3_look 9 = .ok (.iload_n 2, 1) := by decide +kernel
theorem dX3_look_10 : decode cX3_look 10 = .ok (.invokevirtual 77, 3) := by decide +kernel
theorem dX3_look_13 : decode cX3_look 13 = .ok (.aload_n 0, 1) := by decide +kernel
theorem dX3_look_14 : decode cX3_look 14 = .ok (.bipush (-3), 2) := by decide +kernel
theorem dX3_look_16 : decode cX3_look 16 = .ok (.iload_n 3, 1) := by decide +kernel
theorem dX3_look_17 : decode cX3_look 17 = .ok (.invokevirtual 77, 3) := by decide +kernel
theorem dX3_look_20 : decode cX3_look 20 = .ok (.aload_n 0, 1) := by decide +kernel
theorem dX3_look_21 : decode cX3_look 21 = .ok (.bipush (-4), 2) := by decide +kernel
theorem dX3_look_23 : decode cX3_look 23 = .ok (.aload_n 0, 1) := by decide +kernel
theorem dX3_look_24 : decode cX3_look 24 = .ok (.getfield 35, 3) := by decide +kernel
theorem dX3_look_27 : decode cX3_look 27 = .ok (.invokevirtual 77, 3) := by decide +kernel
theorem dX3_look_30 : decode cX3_look 30 = .ok (.aload_n 0, 1) := by decide +kernel
theorem dX3_look_31 : decode cX3_look 31 = .ok (.bipush (-5), 2) := by decide +kernel
theorem dX3_look_33 : decode cX3_look 33 = .ok (.aload_n 0, 1) := by decide +kernel
theorem dX3_look_34 : decode cX3_look 34 = .ok (.getfield 43, 3) := by decide +kernel
theorem dX3_look_37 : decode cX3_look 37 = .ok (.getfield 81, 3) := by decide +kernel
theorem dX3_look_40 : decode cX3_look 40 = .ok (.invokestatic 86, 3) := by decide +kernel
theorem dX3_look_43 : decode cX3_look 43 = .ok (.invokevirtual 77, 3) := by decide +kernel
theorem dX3_look_46 : decode cX3_look 46 = .ok (.aload_n 0, 1) := by decide +kernel
theorem dX3_look_47 : decode cX3_look 47 = .ok (.bipush (-6), 2) := by decide +kernel
theorem dX3_look_49 : decode cX3_look 49 = .ok (.aload_n 0, 1) := by decide +kernel
theorem dX3_look_50 : decode cX3_look 50 = .ok (.getfield 39, 3) := by decide +kernel
theorem dX3_look_53 : decode cX3_look 53 = .ok (.iload_n 1, 1) := by decide +kernel
theorem dX3_look_54 : decode cX3_look 54 = .ok (.iload_n 2, 1) := by decide +kernel
theorem dX3_look_55 : decode cX3_look 55 = .ok (.iload_n 3, 1) := by decide +kernel
theorem dX3_look_56 : decode cX3_look 56 = .ok (.invokevirtual 92, 3) := by decide +kernel
theorem dX3_look_59 : decode cX3_look 59 = .ok (.invokevirtual 77, 3) := by decide +kernel
theorem dX3_look_62 : decode cX3_look 62 = .ok (.aload_n 0, 1) := by decide +kernel
theorem dX3_look_63 : decode cX3_look 63 = .ok (.getfield 13, 3) := by decide +kernel
theorem dX3_look_66 : decode cX3_look 66 = .ok (.aload_n 0, 1) := by decide +kernel
theorem dX3_look_67 : decode cX3_look 67 = .ok (.iload_n 1, 1) := by decide +kernel
theorem dX3_look_68 : decode cX3_look 68 = .ok (.iload_n 3, 1) := by decide +kernel
theorem dX3_look_69 : decode cX3_look 69 = .ok (.invokevirtual 97, 3) := by decide +kernel
theorem dX3_look_72 : decode cX3_look 72 = .ok (.aaload, 1) := by decide +kernel
theorem dX3_look_73 : decode cX3_look 73 = .ok (.areturn, 1) := by decide +kernel
theorem dX3_name_0 : decode cX3_name 0 = .ok (.aload_n 0, 1) := by decide +kernel
theorem dX3_name_1 : decode cX3_name 1 = .ok (.getfield 32, 3) := by decide +kernel
theorem dX3_name_4 : decode cX3_name 4 = .ok (.iconst (-1), 1) := by decide +kernel
theorem dX3_name_5 : decode cX3_name 5 = .ok (.iload_n 1, 1) := by decide +kernel
theorem dX3_name_6 : decode cX3_name 6 = .ok (.isub, 1) := by decide +kernel
theorem dX3_name_7 : decode cX3_name 7 = .ok (.iload_n 2, 1) := by decide +kernel
theorem dX3_name_8 : decode cX3_name 8 = .ok (.iastore, 1) := by decide +kernel
theorem dX3_name_9 : decode cX3_name 9 = .ok (.return_, 1) := by decide +kernel
theorem dX3_valueOf_0 : decode cX3_valueOf 0 = .ok (.iconst 0, 1) := by decide +kernel
theorem dX3_valueOf_1 : decode cX3_valueOf 1 = .ok (.istore 4, 2) := by decide +kernel
theorem dX3_valueOf_3 : decode cX3_valueOf 3 = .ok (.iload_n 2, 1) := by decide +kernel
theorem dX3_valueOf_4 : decode cX3_valueOf 4 = .ok (.istore 5, 2) := by decide +kernel
theorem dX3_valueOf_6 : decode cX3_valueOf 6 = .ok (.iload 5, 2) := by decide +kernel
theorem dX3_valueOf_8 : decode cX3_valueOf 8 = .ok (.iload_n 3, 1) := by decide +kernel
theorem dX3_valueOf_9 : decode cX3_valueOf 9 = .ok (.if_icmp .ge 131, 3) := by decide +kernel
theorem dX3_valueOf_12 : decode cX3_valueOf 12 = .ok (.aload_n 1, 1) := by decide +kernel
theorem dX3_valueOf_13 : decode cX3_valueOf 13 = .ok (.iload 5, 2) := by decide +kernel
theorem dX3_valueOf_15 : decode cX3_valueOf 15 = .ok (.iaload, 1) := by decide +kernel
theorem dX3_valueOf_16 : decode cX3_valueOf 16 = .ok (.istore 6, 2) := by decide +kernel
theorem dX3_valueOf_18 : decode cX3_valueOf 18 = .ok (.iload 6, 2) := by decide +kernel
theorem dX3_valueOf_20 : decode cX3_valueOf 20 = .ok (.bipush (-6), 2) := by decide +kernel
theorem dX3_valueOf_22 : decode cX3_valueOf 22 = .ok (.if_icmp .lt 35, 3) := by decide +kernel
theorem dX3_valueOf_25 : decode cX3_valueOf 25 = .ok (.aload_n 0, 1) := by decide +kernel
theorem dX3_valueOf_26 : decode cX3_valueOf 26 = .ok (.getfield 29, 3) := by decide +kernel
theorem dX3_valueOf_29 : decode cX3_valueOf 29 = .ok (.iload 4, 2) := by decide +kernel
theorem dX3_valueOf_31 : decode cX3_valueOf 31 = .ok (.iload 6, 2) := by decide +kernel
theorem dX3_valueOf_33 : decode cX3_valueOf 33 = .ok (.ifCond .lt 8, 3) := by decide +kernel
theorem dX3_valueOf_36 : decode cX3_valueOf 36 = .ok (.iload 6, 2) := by decide +kernel
theorem dX3_valueOf_38 : decode cX3_valueOf 38 = .ok (.goto 12, 3) := by decide +kernel
theorem dX3_valueOf_41 : decode cX3_valueOf 41 = .ok (.aload_n 0, 1) := by decide +kernel
theorem dX3_valueOf_42 : decode cX3_valueOf 42 = .ok (.getfield 32, 3) := by decide +kernel
theorem dX3_valueOf_45 : decode cX3_valueOf 45 = .ok (.iconst (-1), 1) := by decide +kernel
theorem dX3_valueOf_46 : decode cX3_valueOf 46 = .ok (.iload 6, 2) := by decide +kernel
theorem dX3_valueOf_48 : decode cX3_valueOf 48 = .ok (.isub, 1) := by decide +kernel
theorem dX3_valueOf_49 : decode cX3_valueOf 49 = .ok (.iaload, 1) := by decide +kernel
theorem dX3_valueOf_50 : decode cX3_valueOf 50 = .ok (.iastore, 1) := by decide +kernel
theorem dX3_valueOf_51 : decode cX3_valueOf 51 = .ok (.iinc 4 1, 3) := by decide +kernel
theorem dX3_valueOf_54 : decode cX3_valueOf 54 = .ok (.goto 80, 3) := by decide +kernel
theorem dX3_valueOf_57 : decode cX3_valueOf 57 = .ok (.iload 6, 2) := by decide +kernel
theorem dX3_valueOf_59 : decode cX3_valueOf 59 = .ok (.bipush (-8), 2) := by decide +kernel
theorem dX3_valueOf_61 : decode cX3_valueOf 61 = .ok (.if_icmp .lt 34, 3) := by decide +kernel
theorem dX3_valueOf_64 : decode cX3_valueOf 64 = .ok (.iload 4, 2) := by decide +kernel
theorem dX3_valueOf_66 : decode cX3_valueOf 66 = .ok (.ifCond .le 68, 3) := by decide +kernel
theorem dX3_valueOf_69 : decode cX3_valueOf 69 = .ok (.aload_n 0, 1) := by decide +kernel
theorem dX3_valueOf_70 : decode cX3_valueOf 70 = .ok (.getfield 29, 3) := by decide +kernel
theorem dX3_valueOf_73 : decode cX3_valueOf 73 = .ok (.iload 4, 2) := by decide +kernel
theorem dX3_valueOf_75 : decode cX3_valueOf 75 = .ok (.iconst 1, 1) := by decide +kernel
theorem dX3_valueOf_76 : decode cX3_valueOf 76 = .ok (.isub, 1) := by decide +kernel
theorem dX3_valueOf_77 : decode cX3_valueOf 77 = .ok (.iload 6, 2) := by decide +kernel
theorem dX3_valueOf_79 : decode cX3_valueOf 79 = .ok (.aload_n 0, 1) := by decide +kernel
theorem dX3_valueOf_80 : decode cX3_valueOf 80 = .ok (.getfield 29, 3) := by decide +kernel
theorem dX3_valueOf_83 : decode cX3_valueOf 83 = .ok (.iload 4, 2) := by decide +kernel
theorem dX3_valueOf_85 : decode cX3_valueOf 85 = .ok (.iconst 1, 1) := by decide +kernel
theorem dX3_valueOf_86 : decode cX3_valueOf 86 = .ok (.isub, 1) := by decide +kernel
theorem dX3_valueOf_87 : decode cX3_valueOf 87 = .ok (.iaload, 1) := by decide +kernel
theorem dX3_valueOf_88 : decode cX3_valueOf 88 = .ok (.invokestatic 101, 3) := by decide +kernel
theorem dX3_valueOf_91 : decode cX3_valueOf 91 = .ok (.iastore, 1) := by decide +kernel
theorem dX3_valueOf_92 : decode cX3_valueOf 92 = .ok (.goto 42, 3) := by decide +kernel
theorem dX3_valueOf_95 : decode cX3_valueOf 95 = .ok (.iload 4, 2) := by decide +kernel
theorem dX3_valueOf_97 : decode cX3_valueOf 97 = .ok (.iconst 1, 1) := by decide +kernel
theorem dX3_valueOf_98 : decode cX3_valueOf 98 = .ok (.if_icmp .le 36, 3) := by decide +kernel
theorem dX3_valueOf_101 : decode cX3_valueOf 101 = .ok (.iinc 4 (-1), 3) := by decide +kernel
theorem dX3_valueOf_104 : decode cX3_valueOf 104 = .ok (.aload_n 0, 1) := by decide +kernel
theorem dX3_valueOf_105 : decode cX3_valueOf 105 = .ok (.getfield 29, 3) := by decide +kernel
theorem dX3_valueOf_108 : decode cX3_valueOf 108 = .ok (.iload 4, 2) := by decide +kernel
theorem dX3_valueOf_110 : decode cX3_valueOf 110 = .ok (.iconst 1, 1) := by decide +kernel
theorem dX3_valueOf_111 : decode cX3_valueOf 111 = .ok (.isub, 1) := by decide +kernel
theorem dX3_valueOf_112 : decode cX3_valueOf 112 = .ok (.iload 6, 2) := by decide +kernel
theorem dX3_valueOf_114 : decode cX3_valueOf 114 = .ok (.aload_n 0, 1) := by decide +kernel
theorem dX3_valueOf_115 : decode cX3_valueOf 115 = .ok (.getfield 29, 3) := by decide +kernel
theorem dX3_valueOf_118 : decode cX3_valueOf 118 = .ok (.iload 4, 2) := by decide +kernel
theorem dX3_valueOf_120 : decode cX3_valueOf 120 = .ok (.iconst 1, 1) := by decide +kernel
theorem dX3_valueOf_121 : decode cX3_valueOf 121 = .ok (.isub, 1) := by decide +kernel
theorem dX3_valueOf_122 : decode cX3_valueOf 122 = .ok (.iaload, 1) := by decide +kernel
theorem dX3_valueOf_123 : decode cX3_valueOf 123 = .ok (.aload_n 0, 1) := by decide +kernel
theorem dX3_valueOf_124 : decode cX3_valueOf 124 = .ok (.getfield 29, 3) := by decide +kernel
theorem dX3_valueOf_127 : decode cX3_valueOf 127 = .ok (.iload 4, 2) := by decide +kernel
theorem dX3_valueOf_129 : decode cX3_valueOf 129 = .ok (.iaload, 1) := by decide +kernel
theorem dX3_valueOf_130 : decode cX3_valueOf 130 = .ok (.invokestatic 104, 3) := by decide +kernel
theorem dX3_valueOf_133 : decode cX3_valueOf 133 = .ok (.iastore, 1) := by decide +kernel
theorem dX3_valueOf_134 : decode cX3_valueOf 134 = .ok (.iinc 5 1, 3) := by decide +kernel
theorem dX3_valueOf_137 : decode cX3_valueOf 137 = .ok (.goto (-131), 3) := by decide +kernel
theorem dX3_valueOf_140 : decode cX3_valueOf 140 = .ok (.iload 4, 2) := by decide +kernel
theorem dX3_valueOf_142 : decode cX3_valueOf 142 = .ok (.ifCond .le 15, 3) := by decide +kernel
theorem dX3_valueOf_145 : decode cX3_valueOf 145 = .ok (.aload_n 0, 1) := by decide +kernel
theorem dX3_valueOf_146 : decode cX3_valueOf 146 = .ok (.getfield 29, 3) := by decide +kernel
theorem dX3_valueOf_149 : decode cX3_valueOf 149 = .ok (.iload 4, 2) := by decide +kernel
theorem dX3_valueOf_151 : decode cX3_valueOf 151 = .ok (.iconst 1, 1) := by decide +kernel
theorem dX3_valueOf_152 : decode cX3_valueOf 152 = .ok (.isub, 1) := by decide +kernel
theorem dX3_valueOf_153 : decode cX3_valueOf 153 = .ok (.iaload, 1) := by decide +kernel
theorem dX3_valueOf_154 : decode cX3_valueOf 154 = .ok (.goto 4, 3) := by decide +kernel
theorem dX3_valueOf_157 : decode cX3_valueOf 157 = .ok (.iconst 0, 1) := by decide +kernel
theorem dX3_valueOf_158 : decode cX3_valueOf 158 = .ok (.ireturn, 1) := by decide +kernel
theorem dX3_ofOne_0 : decode cX3_ofOne 0 = .ok (.iload_n 0, 1) := by decide +kernel
theorem dX3_ofOne_1 : decode cX3_ofOne 1 = .ok (.bipush (-7), 2) := by decide +kernel
theorem dX3_ofOne_3 : decode cX3_ofOne 3 = .ok (.if_icmp .ne 6, 3) := by decide +kernel
theorem dX3_ofOne_6 : decode cX3_ofOne 6 = .ok (.iload_n 1, 1) := by decide +kernel
theorem dX3_ofOne_7 : decode cX3_ofOne 7 = .ok (.ineg, 1) := by decide +kernel
theorem dX3_ofOne_8 : decode cX3_ofOne 8 = .ok (.ireturn, 1) := by decide +kernel
theorem dX3_ofOne_9 : decode cX3_ofOne 9 = .ok (.iload_n 1, 1) := by decide +kernel
theorem dX3_ofOne_10 : decode cX3_ofOne 10 = .ok (.ifCond .ne 7, 3) := by decide +kernel
theorem dX3_ofOne_13 : decode cX3_ofOne 13 = .ok (.iconst 1, 1) := by decide +kernel
theorem dX3_ofOne_14 : decode cX3_ofOne 14 = .ok (.goto 4, 3) := by decide +kernel
theorem dX3_ofOne_17 : decode cX3_ofOne 17 = .ok (.iconst 0, 1) := by decide +kernel
theorem dX3_ofOne_18 : decode cX3_ofOne 18 = .ok (.ireturn, 1) := by decide +kernel
theorem dX3_ofTwo_0 : decode cX3_ofTwo 0 = .ok (.iload_n 0, 1) := by decide +kernel
theorem dX3_ofTwo_1 : decode cX3_ofTwo 1 = .ok (.tableswitch 97 (-14) (-9) #[93, 89, 78, 67, 53, 39], 39) := by decide +kernel
theorem dX3_ofTwo_40 : decode cX3_ofTwo 40 = .ok (.iload_n 1, 1) := by decide +kernel
theorem dX3_ofTwo_41 : decode cX3_ofTwo 41 = .ok (.ifCond .ne 7, 3) := by decide +kernel
theorem dX3_ofTwo_44 : decode cX3_ofTwo 44 = .ok (.iload_n 2, 1) := by decide +kernel
theorem dX3_ofTwo_45 : decode cX3_ofTwo 45 = .ok (.ifCond .eq 7, 3) := by decide +kernel
theorem dX3_ofTwo_48 : decode cX3_ofTwo 48 = .ok (.iconst 1, 1) := by decide +kernel
theorem dX3_ofTwo_49 : decode cX3_ofTwo 49 = .ok (.goto 4, 3) := by decide +kernel
theorem dX3_ofTwo_52 : decode cX3_ofTwo 52 = .ok (.iconst 0, 1) := by decide +kernel
theorem dX3_ofTwo_53 : decode cX3_ofTwo 53 = .ok (.ireturn, 1) := by decide +kernel
theorem dX3_ofTwo_54 : decode cX3_ofTwo 54 = .ok (.iload_n 1, 1) := by decide +kernel
theorem dX3_ofTwo_55 : decode cX3_ofTwo 55 = .ok (.ifCond .eq 11, 3) := by decide +kernel
theorem dX3_ofTwo_58 : decode cX3_ofTwo 58 = .ok (.iload_n 2, 1) := by decide +kernel
theorem dX3_ofTwo_59 : decode cX3_ofTwo 59 = .ok (.ifCond .eq 7, 3) := by decide +kernel
theorem dX3_ofTwo_62 : decode cX3_ofTwo 62 = .ok (.iconst 1, 1) := by decide +kernel
theorem dX3_ofTwo_63 : decode cX3_ofTwo 63 = .ok (.goto 4, 3) := by decide +kernel
theorem dX3_ofTwo_66 : decode cX3_ofTwo 66 = .ok (.iconst 0, 1) := by decide +kernel
theorem dX3_ofTwo_67 : decode cX3_ofTwo 67 = .ok (.ireturn, 1) := by decide +kernel
theorem dX3_ofTwo_68 : decode cX3_ofTwo 68 = .ok (.iload_n 1, 1) := by decide +kernel
theorem dX3_ofTwo_69 : decode cX3_ofTwo 69 = .ok (.iload_n 2, 1) := by decide +kernel
theorem dX3_ofTwo_70 : decode cX3_ofTwo 70 = .ok (.if_icmp .ge 7, 3) := by decide +kernel
theorem dX3_ofTwo_73 : decode cX3_ofTwo 73 = .ok (.iconst 1, 1) := by decide +kernel
theorem dX3_ofTwo_74 : decode cX3_ofTwo 74 = .ok (.goto 4, 3) := by decide +kernel
theorem dX3_ofTwo_77 : decode cX3_ofTwo 77 = .ok (.iconst 0, 1) := by decide +kernel
theorem dX3_ofTwo_78 : decode cX3_ofTwo 78 = .ok (.ireturn, 1) := by decide +kernel
theorem dX3_ofTwo_79 : decode cX3_ofTwo 79 = .ok (.iload_n 1, 1) := by decide +kernel
theorem dX3_ofTwo_80 : decode cX3_ofTwo 80 = .ok (.iload_n 2, 1) := by decide +kernel
theorem dX3_ofTwo_81 : decode cX3_ofTwo 81 = .ok (.if_icmp .ne 7, 3) := by decide +kernel
theorem dX3_ofTwo_84 : decode cX3_ofTwo 84 = .ok (.iconst 1, 1) := by decide +kernel
theorem dX3_ofTwo_85 : decode cX3_ofTwo 85 = .ok (.goto 4, 3) := by decide +kernel
theorem dX3_ofTwo_88 : decode cX3_ofTwo 88 = .ok (.iconst 0, 1) := by decide +kernel
theorem dX3_ofTwo_89 : decode cX3_ofTwo 89 = .ok (.ireturn, 1) := by decide +kernel
theorem dX3_ofTwo_90 : decode cX3_ofTwo 90 = .ok (.iload_n 1, 1) := by decide +kernel
theorem dX3_ofTwo_91 : decode cX3_ofTwo 91 = .ok (.iload_n 2, 1) := by decide +kernel
theorem dX3_ofTwo_92 : decode cX3_ofTwo 92 = .ok (.iadd, 1) := by decide +kernel
theorem dX3_ofTwo_93 : decode cX3_ofTwo 93 = .ok (.ireturn, 1) := by decide +kernel
theorem dX3_ofTwo_94 : decode cX3_ofTwo 94 = .ok (.iload_n 1, 1) := by decide +kernel
theorem dX3_ofTwo_95 : decode cX3_ofTwo 95 = .ok (.iload_n 2, 1) := by decide +kernel
theorem dX3_ofTwo_96 : decode cX3_ofTwo 96 = .ok (.isub, 1) := by decide +kernel
theorem dX3_ofTwo_97 : decode cX3_ofTwo 97 = .ok (.ireturn, 1) := by decide +kernel
theorem dX3_ofTwo_98 : decode cX3_ofTwo 98 = .ok (.iload_n 1, 1) := by decide +kernel
theorem dX3_ofTwo_99 : decode cX3_ofTwo 99 = .ok (.iload_n 2, 1) := by decide +kernel
theorem dX3_ofTwo_100 : decode cX3_ofTwo 100 = .ok (.imul, 1) := by decide +kernel
theorem dX3_ofTwo_101 : decode cX3_ofTwo 101 = .ok (.ireturn, 1) := by decide +kernel
theorem dX4_init_0 : decode cX4_init 0 = .ok (.aload_n 0, 1) := by decide +kernel
theorem dX4_init_1 : decode cX4_init 1 = .ok (.invokespecial 3, 3) := by decide +kernel
theorem dX4_init_4 : decode cX4_init 4 = .ok (.aload_n 0, 1) := by decide +kernel
theorem dX4_init_5 : decode cX4_init 5 = .ok (.bipush 16, 2) := by decide +kernel
theorem dX4_init_7 : decode cX4_init 7 = .ok (.newarray .int, 2) := by decide +kernel
theorem dX4_init_9 : decode cX4_init 9 = .ok (.putfield 11, 3) := by decide +kernel
theorem dX4_init_12 : decode cX4_init 12 = .ok (.aload_n 0, 1) := by decide +kernel
theorem dX4_init_13 : decode cX4_init 13 = .ok (.bipush 16, 2) := by decide +kernel
theorem dX4_init_15 : decode cX4_init 15 = .ok (.newarray .int, 2) := by decide +kernel
theorem dX4_init_17 : decode cX4_init 17 = .ok (.putfield 15, 3) := by decide +kernel
theorem dX4_init_20 : decode cX4_init 20 = .ok (.aload_n 0, 1) := by decide +kernel
theorem dX4_init_21 : decode cX4_init 21 = .ok (.bipush 16, 2) := by decide +kernel
theorem dX4_init_23 : decode cX4_init 23 = .ok (.newarray .int, 2) := by decide +kernel
theorem dX4_init_25 : decode cX4_init 25 = .ok (.putfield 18, 3) := by decide +kernel
theorem dX4_init_28 : decode cX4_init 28 = .ok (.aload_n 0, 1) := by decide +kernel
theorem dX4_init_29 : decode cX4_init 29 = .ok (.bipush 16, 2) := by decide +kernel
theorem dX4_init_31 : decode cX4_init 31 = .ok (.newarray .int, 2) := by decide +kernel
theorem dX4_init_33 : decode cX4_init 33 = .ok (.putfield 21, 3) := by decide +kernel
theorem dX4_init_36 : decode cX4_init 36 = .ok (.aload_n 0, 1) := by decide +kernel
theorem dX4_init_37 : decode cX4_init 37 = .ok (.bipush 16, 2) := by decide +kernel
theorem dX4_init_39 : decode cX4_init 39 = .ok (.newarray .int, 2) := by decide +kernel
theorem dX4_init_41 : decode cX4_init 41 = .ok (.putfield 24, 3) := by decide +kernel
theorem dX4_init_44 : decode cX4_init 44 = .ok (.return_, 1) := by decide +kernel
theorem dX4_has_0 : decode cX4_has 0 = .ok (.iload_n 1, 1) := by decide +kernel
theorem dX4_has_1 : decode cX4_has 1 = .ok (.ifCond .lt 15, 3) := by decide +kernel
theorem dX4_has_4 : decode cX4_has 4 = .ok (.iload_n 1, 1) := by decide +kernel
theorem dX4_has_5 : decode cX4_has 5 = .ok (.aload_n 0, 1) := by decide +kernel
theorem dX4_has_6 : decode cX4_has 6 = .ok (.getfield 27, 3) := by decide +kernel
theorem dX4_has_9 : decode cX4_has 9 = .ok (.if_icmp .ge 7, 3) := by decide +kernel
theorem dX4_has_12 : decode cX4_has 12 = .ok (.iconst 1, 1) := by decide +kernel
theorem dX4_has_13 : decode cX4_has 13 = .ok (.goto 4, 3) := by decide +kernel
theorem dX4_has_16 : decode cX4_has 16 = .ok (.iconst 0, 1) := by decide +kernel
theorem dX4_has_17 : decode cX4_has 17 = .ok (.ireturn, 1) := by decide +kernel
theorem dX4_hasAll_0 : decode cX4_hasAll 0 = .ok (.iload_n 1, 1) := by decide +kernel
theorem dX4_hasAll_1 : decode cX4_hasAll 1 = .ok (.ifCond .lt 17, 3) := by decide +kernel
theorem dX4_hasAll_4 : decode cX4_hasAll 4 = .ok (.iload_n 1, 1) := by decide +kernel
theorem dX4_hasAll_5 : decode cX4_hasAll 5 = .ok (.iconst 1, 1) := by decide +kernel
theorem dX4_hasAll_6 : decode cX4_hasAll 6 = .ok (.aload_n 0, 1) := by decide +kernel
theorem dX4_hasAll_7 : decode cX4_hasAll 7 = .ok (.getfield 27, 3) := by decide +kernel
theorem dX4_hasAll_10 : decode cX4_hasAll 10 = .ok (.ishl, 1) := by decide +kernel
theorem dX4_hasAll_11 : decode cX4_hasAll 11 = .ok (.if_icmp .ge 7, 3) := by decide +kernel
theorem dX4_hasAll_14 : decode cX4_hasAll 14 = .ok (.iconst 1, 1) := by decide +kernel
theorem dX4_hasAll_15 : decode cX4_hasAll 15 = .ok (.goto 4, 3) := by decide +kernel
theorem dX4_hasAll_18 : decode cX4_hasAll 18 = .ok (.iconst 0, 1) := by decide +kernel
theorem dX4_hasAll_19 : decode cX4_hasAll 19 = .ok (.ireturn, 1) := by decide +kernel
theorem dX4_add_0 : decode cX4_add 0 = .ok (.aload_n 0, 1) := by decide +kernel
theorem dX4_add_1 : decode cX4_add 1 = .ok (.getfield 11, 3) := by decide +kernel
theorem dX4_add_4 : decode cX4_add 4 = .ok (.aload_n 0, 1) := by decide +kernel
theorem dX4_add_5 : decode cX4_add 5 = .ok (.getfield 27, 3) := by decide +kernel
theorem dX4_add_8 : decode cX4_add 8 = .ok (.iload_n 1, 1) := by decide +kernel
theorem dX4_add_9 : decode cX4_add 9 = .ok (.iastore, 1) := by decide +kernel
theorem dX4_add_10 : decode cX4_add 10 = .ok (.aload_n 0, 1) := by decide +kernel
theorem dX4_add_11 : decode cX4_add 11 = .ok (.getfield 15, 3) := by decide +kernel
theorem dX4_add_14 : decode cX4_add 14 = .ok (.aload_n 0, 1) := by decide +kernel
theorem dX4_add_15 : decode cX4_add 15 = .ok (.getfield 27, 3) := by decide +kernel
theorem dX4_add_18 : decode cX4_add 18 = .ok (.iload_n 2, 1) := by decide +kernel
theorem dX4_add_19 : decode cX4_add 19 = .ok (.iastore, 1) := by decide +kernel
theorem dX4_add_20 : decode cX4_add 20 = .ok (.aload_n 0, 1) := by decide +kernel
theorem dX4_add_21 : decode cX4_add 21 = .ok (.getfield 18, 3) := by decide +kernel
theorem dX4_add_24 : decode cX4_add 24 = .ok (.aload_n 0, 1) := by decide +kernel
theorem dX4_add_25 : decode cX4_add 25 = .ok (.getfield 27, 3) := by decide +kernel
theorem dX4_add_28 : decode cX4_add 28 = .ok (.iload_n 3, 1) := by decide +kernel
theorem dX4_add_29 : decode cX4_add 29 = .ok (.iastore, 1) := by decide +kernel
theorem dX4_add_30 : decode cX4_add 30 = .ok (.aload_n 0, 1) := by decide +kernel
theorem dX4_add_31 : decode cX4_add 31 = .ok (.getfield 21, 3) := by decide +kernel
theorem dX4_add_34 : decode cX4_add 34 = .ok (.aload_n 0, 1) := by decide +kernel
theorem dX4_add_35 : decode cX4_add 35 = .ok (.getfield 27, 3) := by decide +kernel
theorem dX4_add_38 : decode cX4_add 38 = .ok (.iload 4, 2) := by decide +kernel
theorem dX4_add_40 : decode cX4_add 40 = .ok (.iastore, 1) := by decide +kernel
theorem dX4_add_41 : decode cX4_add 41 = .ok (.aload_n 0, 1) := by decide +kernel
theorem dX4_add_42 : decode cX4_add 42 = .ok (.getfield 24, 3) := by decide +kernel
theorem dX4_add_45 : decode cX4_add 45 = .ok (.aload_n 0, 1) := by decide +kernel
theorem dX4_add_46 : decode cX4_add 46 = .ok (.getfield 27, 3) := by decide +kernel
theorem dX4_add_49 : decode cX4_add 49 = .ok (.iload 5, 2) := by decide +kernel
theorem dX4_add_51 : decode cX4_add 51 = .ok (.iastore, 1) := by decide +kernel
theorem dX4_add_52 : decode cX4_add 52 = .ok (.aload_n 0, 1) := by decide +kernel
theorem dX4_add_53 : decode cX4_add 53 = .ok (.dup, 1) := by decide +kernel
theorem dX4_add_54 : decode cX4_add 54 = .ok (.getfield 27, 3) := by decide +kernel
theorem dX4_add_57 : decode cX4_add 57 = .ok (.iconst 1, 1) := by decide +kernel
theorem dX4_add_58 : decode cX4_add 58 = .ok (.iadd, 1) := by decide +kernel
theorem dX4_add_59 : decode cX4_add 59 = .ok (.putfield 27, 3) := by decide +kernel
theorem dX4_add_62 : decode cX4_add 62 = .ok (.aload_n 0, 1) := by decide +kernel
theorem dX4_add_63 : decode cX4_add 63 = .ok (.aload_n 0, 1) := by decide +kernel
theorem dX4_add_64 : decode cX4_add 64 = .ok (.aload_n 0, 1) := by decide +kernel
theorem dX4_add_65 : decode cX4_add 65 = .ok (.getfield 31, 3) := by decide +kernel
theorem dX4_add_68 : decode cX4_add 68 = .ok (.invokevirtual 34, 3) := by decide +kernel
theorem dX4_add_71 : decode cX4_add 71 = .ok (.putfield 38, 3) := by decide +kernel
theorem dX4_add_74 : decode cX4_add 74 = .ok (.aload_n 0, 1) := by decide +kernel
theorem dX4_add_75 : decode cX4_add 75 = .ok (.getfield 27, 3) := by decide +kernel
theorem dX4_add_78 : decode cX4_add 78 = .ok (.iconst 1, 1) := by decide +kernel
theorem dX4_add_79 : decode cX4_add 79 = .ok (.isub, 1) := by decide +kernel
theorem dX4_add_80 : decode cX4_add 80 = .ok (.ireturn, 1) := by decide +kernel
theorem dX4_markForged_0 : decode cX4_markForged 0 = .ok (.aload_n 0, 1) := by decide +kernel
theorem dX4_markForged_1 : decode cX4_markForged 1 = .ok (.iload_n 2, 1) := by decide +kernel
theorem dX4_markForged_2 : decode cX4_markForged 2 = .ok (.ifCond .eq 14, 3) := by decide +kernel
theorem dX4_markForged_5 : decode cX4_markForged 5 = .ok (.aload_n 0, 1) := by decide +kernel
theorem dX4_markForged_6 : decode cX4_markForged 6 = .ok (.getfield 31, 3) := by decide +kernel
theorem dX4_markForged_9 : decode cX4_markForged 9 = .ok (.iconst 1, 1) := by decide +kernel
theorem dX4_markForged_10 : decode cX4_markForged 10 = .ok (.iload_n 1, 1) := by decide +kernel
theorem dX4_markForged_11 : decode cX4_markForged 11 = .ok (.ishl, 1) := by decide +kernel
theorem dX4_markForged_12 : decode cX4_markForged 12 = .ok (.ior, 1) := by decide +kernel
theorem dX4_markForged_13 : decode cX4_markForged 13 = .ok (.goto 13, 3) := by decide +kernel
theorem dX4_markForged_16 : decode cX4_markForged 16 = .ok (.aload_n 0, 1) := by decide +kernel
theorem dX4_markForged_17 : decode cX4_markForged 17 = .ok (.getfield 31, 3) := by decide +kernel
theorem dX4_markForged_20 : decode cX4_markForged 20 = .ok (.iconst 1, 1) := by decide +kernel
theorem dX4_markForged_21 : decode cX4_markForged 21 = .ok (.iload_n 1, 1) := by decide +kernel
theorem dX4_markForged_22 : decode cX4_markForged 22 = .ok (.ishl, 1) := by decide +kernel
theorem dX4_markForged_23 : decode cX4_markForged 23 = .ok (.iconst (-1), 1) := by decide +kernel
theorem dX4_markForged_24 : decode cX4_markForged 24 = .ok (.ixor, 1) := by decide +kernel
theorem dX4_markForged_25 : decode cX4_markForged 25 = .ok (.iand, 1) := by decide +kernel
theorem dX4_markForged_26 : decode cX4_markForged 26 = .ok (.putfield 31, 3) := by decide +kernel
theorem dX4_markForged_29 : decode cX4_markForged 29 = .ok (.aload_n 0, 1) := by decide +kernel
theorem dX4_markForged_30 : decode cX4_markForged 30 = .ok (.aload_n 0, 1) := by decide +kernel
theorem dX4_markForged_31 : decode cX4_markForged 31 = .ok (.aload_n 0, 1) := by decide +kernel
theorem dX4_markForged_32 : decode cX4_markForged 32 = .ok (.getfield 31, 3) := by decide +kernel
theorem dX4_markForged_35 : decode cX4_markForged 35 = .ok (.invokevirtual 34, 3) := by decide +kernel
theorem dX4_markForged_38 : decode cX4_markForged 38 = .ok (.putfield 38, 3) := by decide +kernel
theorem dX4_markForged_41 : decode cX4_markForged 41 = .ok (.return_, 1) := by decide +kernel
theorem dX4_standingCount_0 : decode cX4_standingCount 0 = .ok (.aload_n 0, 1) := by decide +kernel
theorem dX4_standingCount_1 : decode cX4_standingCount 1 = .ok (.getfield 38, 3) := by decide +kernel
theorem dX4_standingCount_4 : decode cX4_standingCount 4 = .ok (.invokestatic 41, 3) := by decide +kernel
theorem dX4_standingCount_7 : decode cX4_standingCount 7 = .ok (.ireturn, 1) := by decide +kernel
theorem dX4_fallingWith_0 : decode cX4_fallingWith 0 = .ok (.aload_n 0, 1) := by decide +kernel
theorem dX4_fallingWith_1 : decode cX4_fallingWith 1 = .ok (.getfield 38, 3) := by decide +kernel
theorem dX4_fallingWith_4 : decode cX4_fallingWith 4 = .ok (.aload_n 0, 1) := by decide +kernel
theorem dX4_fallingWith_5 : decode cX4_fallingWith 5 = .ok (.aload_n 0, 1) := by decide +kernel
theorem dX4_fallingWith_6 : decode cX4_fallingWith 6 = .ok (.getfield 31, 3) := by decide +kernel
theorem dX4_fallingWith_9 : decode cX4_fallingWith 9 = .ok (.iconst 1, 1) := by decide +kernel
theorem dX4_fallingWith_10 : decode cX4_fallingWith 10 = .ok (.iload_n 1, 1) := by decide +kernel
theorem dX4_fallingWith_11 : decode cX4_fallingWith 11 = .ok (.ishl, 1) := by decide +kernel
theorem dX4_fallingWith_12 : decode cX4_fallingWith 12 = .ok (.ior, 1) := by decide +kernel
theorem dX4_fallingWith_13 : decode cX4_fallingWith 13 = .ok (.invokevirtual 34, 3) := by decide +kernel
theorem dX4_fallingWith_16 : decode cX4_fallingWith 16 = .ok (.iconst (-1), 1) := by decide +kernel
theorem dX4_fallingWith_17 : decode cX4_fallingWith 17 = .ok (.ixor, 1) := by decide +kernel
theorem dX4_fallingWith_18 : decode cX4_fallingWith 18 = .ok (.iand, 1) := by decide +kernel
theorem dX4_fallingWith_19 : decode cX4_fallingWith 19 = .ok (.ireturn, 1) := by decide +kernel
theorem dX4_standingWithout_0 : decode cX4_standingWithout 0 = .ok (.iconst 0, 1) := by decide +kernel
theorem dX4_standingWithout_1 : decode cX4_standingWithout 1 = .ok (.istore_n 2, 1) := by decide +kernel
theorem dX4_standingWithout_2 : decode cX4_standingWithout 2 = .ok (.iconst 0, 1) := by decide +kernel
theorem dX4_standingWithout_3 : decode cX4_standingWithout 3 = .ok (.istore_n 3, 1) := by decide +kernel
theorem dX4_standingWithout_4 : decode cX4_standingWithout 4 = .ok (.iload_n 3, 1) := by decide +kernel
theorem dX4_standingWithout_5 : decode cX4_standingWithout 5 = .ok (.aload_n 0, 1) := by decide +kernel
theorem dX4_standingWithout_6 : decode cX4_standingWithout 6 = .ok (.getfield 27, 3) := by decide +kernel
theorem dX4_standingWithout_9 : decode cX4_standingWithout 9 = .ok (.if_icmp .ge 36, 3) := by decide +kernel
theorem dX4_standingWithout_12 : decode cX4_standingWithout 12 = .ok (.iload_n 1, 1) := by decide +kernel
theorem dX4_standingWithout_13 : decode cX4_standingWithout 13 = .ok (.iload_n 3, 1) := by decide +kernel
theorem dX4_standingWithout_14 : decode cX4_standingWithout 14 = .ok (.invokestatic 46, 3) := by decide +kernel
theorem dX4_standingWithout_17 : decode cX4_standingWithout 17 = .ok (.ifCond .ne 22, 3) := by decide +kernel
theorem dX4_standingWithout_20 : decode cX4_standingWithout 20 = .ok (.aload_n 0, 1) := by decide +kernel
theorem dX4_standingWithout_21 : decode cX4_standingWithout 21 = .ok (.getfield 24, 3) := by decide +kernel
theorem dX4_standingWithout_24 : decode cX4_standingWithout 24 = .ok (.iload_n 3, 1) := by decide +kernel
theorem dX4_standingWithout_25 : decode cX4_standingWithout 25 = .ok (.iaload, 1) := by decide +kernel
theorem dX4_standingWithout_26 : decode cX4_standingWithout 26 = .ok (.iload_n 2, 1) := by decide +kernel
theorem dX4_standingWithout_27 : decode cX4_standingWithout 27 = .ok (.iconst (-1), 1) := by decide +kernel
theorem dX4_standingWithout_28 : decode cX4_standingWithout 28 = .ok (.ixor, 1) := by decide +kernel
theorem dX4_standingWithout_29 : decode cX4_standingWithout 29 = .ok (.iand, 1) := by decide +kernel
theorem dX4_standingWithout_30 : decode cX4_standingWithout 30 = .ok (.ifCond .ne 9, 3) := by decide +kernel
theorem dX4_standingWithout_33 : decode cX4_standingWithout 33 = .ok (.iload_n 2, 1) := by decide +kernel
theorem dX4_standingWithout_34 : decode cX4_standingWithout 34 = .ok (.iconst 1, 1) := by decide +kernel
theorem dX4_standingWithout_35 : decode cX4_standingWithout 35 = .ok (.iload_n 3, 1) := by decide +kernel
theorem dX4_standingWithout_36 : decode cX4_standingWithout 36 = .ok (.ishl, 1) := by decide +kernel
theorem dX4_standingWithout_37 : decode cX4_standingWithout 37 = .ok (.ior, 1) := by decide +kernel
theorem dX4_standingWithout_38 : decode cX4_standingWithout 38 = .ok (.istore_n 2, 1) := by decide +kernel
theorem dX4_standingWithout_39 : decode cX4_standingWithout 39 = .ok (.iinc 3 1, 3) := by decide +kernel
theorem dX4_standingWithout_42 : decode cX4_standingWithout 42 = .ok (.goto (-38), 3) := by decide +kernel
theorem dX4_standingWithout_45 : decode cX4_standingWithout 45 = .ok (.iload_n 2, 1) := by decide +kernel
theorem dX4_standingWithout_46 : decode cX4_standingWithout 46 = .ok (.ireturn, 1) := by decide +kernel
theorem dX4_allowedLands_0 : decode cX4_allowedLands 0 = .ok (.bipush 31, 2) := by decide +kernel
theorem dX4_allowedLands_2 : decode cX4_allowedLands 2 = .ok (.istore_n 2, 1) := by decide +kernel
theorem dX4_allowedLands_3 : decode cX4_allowedLands 3 = .ok (.iconst 0, 1) := by decide +kernel
theorem dX4_allowedLands_4 : decode cX4_allowedLands 4 = .ok (.istore_n 3, 1) := by decide +kernel
theorem dX4_allowedLands_5 : decode cX4_allowedLands 5 = .ok (.iload_n 3, 1) := by decide +kernel
theorem dX4_allowedLands_6 : decode cX4_allowedLands 6 = .ok (.aload_n 0, 1) := by decide +kernel
theorem dX4_allowedLands_7 : decode cX4_allowedLands 7 = .ok (.getfield 27, 3) := by decide +kernel
theorem dX4_allowedLands_10 : decode cX4_allowedLands 10 = .ok (.if_icmp .ge 29, 3) := by decide +kernel
theorem dX4_allowedLands_13 : decode cX4_allowedLands 13 = .ok (.aload_n 0, 1) := by decide +kernel
theorem dX4_allowedLands_14 : decode cX4_allowedLands 14 = .ok (.getfield 38, 3) := by decide +kernel
theorem dX4_allowedLands_17 : decode cX4_allowedLands 17 = .ok (.iload_n 3, 1) := by decide +kernel
theorem dX4_allowedLands_18 : decode cX4_allowedLands 18 = .ok (.invokestatic 46, 3) := by decide +kernel
theorem dX4_allowedLands_21 : decode cX4_allowedLands 21 = .ok (.ifCond .eq 12, 3) := by decide +kernel
theorem dX4_allowedLands_24 : decode cX4_allowedLands 24 = .ok (.iload_n 2, 1) := by decide +kernel
theorem dX4_allowedLands_25 : decode cX4_allowedLands 25 = .ok (.aload_n 0, 1) := by decide +kernel
theorem dX4_allowedLands_26 : decode cX4_allowedLands 26 = .ok (.iload_n 3, 1) := by decide +kernel
theorem dX4_allowedLands_27 : decode cX4_allowedLands 27 = .ok (.iload_n 1, 1) := by decide +kernel
theorem dX4_allowedLands_28 : decode cX4_allowedLands 28 = .ok (.invokevirtual 50, 3) := by decide +kernel
theorem dX4_allowedLands_31 : decode cX4_allowedLands 31 = .ok (.iand, 1) := by decide +kernel
theorem dX4_allowedLands_32 : decode cX4_allowedLands 32 = .ok (.istore_n 2, 1) := by decide +kernel
theorem dX4_allowedLands_33 : decode cX4_allowedLands 33 = .ok (.iinc 3 1, 3) := by decide +kernel
theorem dX4_allowedLands_36 : decode cX4_allowedLands 36 = .ok (.goto (-31), 3) := by decide +kernel
theorem dX4_allowedLands_39 : decode cX4_allowedLands 39 = .ok (.iload_n 2, 1) := by decide +kernel
theorem dX4_allowedLands_40 : decode cX4_allowedLands 40 = .ok (.ireturn, 1) := by decide +kernel
theorem dX4_landsByPaper_0 : decode cX4_landsByPaper 0 = .ok (.bipush 31, 2) := by decide +kernel
theorem dX4_landsByPaper_2 : decode cX4_landsByPaper 2 = .ok (.istore_n 3, 1) := by decide +kernel
theorem dX4_landsByPaper_3 : decode cX4_landsByPaper 3 = .ok (.aload_n 0, 1) := by decide +kernel
theorem dX4_landsByPaper_4 : decode cX4_landsByPaper 4 = .ok (.getfield 11, 3) := by decide +kernel
theorem dX4_landsByPaper_7 : decode cX4_landsByPaper 7 = .ok (.iload_n 1, 1) := by decide +kernel
theorem dX4_landsByPaper_8 : decode cX4_landsByPaper 8 = .ok (.iaload, 1) := by decide +kernel
theorem dX4_landsByPaper_9 : decode cX4_landsByPaper 9 = .ok (.istore 4, 2) := by decide +kernel
theorem dX4_landsByPaper_11 : decode cX4_landsByPaper 11 = .ok (.iconst 0, 1) := by decide +kernel
theorem dX4_landsByPaper_12 : decode cX4_landsByPaper 12 = .ok (.istore 5, 2) := by decide +kernel
theorem dX4_landsByPaper_14 : decode cX4_landsByPaper 14 = .ok (.iload 5, 2) := by decide +kernel
theorem dX4_landsByPaper_16 : decode cX4_landsByPaper 16 = .ok (.bipush 6, 2) := by decide +kernel
theorem dX4_landsByPaper_18 : decode cX4_landsByPaper 18 = .ok (.if_icmp .ge 53, 3) := by decide +kernel
theorem dX4_landsByPaper_21 : decode cX4_landsByPaper 21 = .ok (.iload 4, 2) := by decide +kernel
theorem dX4_landsByPaper_23 : decode cX4_landsByPaper 23 = .ok (.iconst (-1), 1) := by decide +kernel
theorem dX4_landsByPaper_24 : decode cX4_landsByPaper 24 = .ok (.if_icmp .eq 47, 3) := by decide +kernel
theorem dX4_landsByPaper_27 : decode cX4_landsByPaper 27 = .ok (.iload_n 3, 1) := by decide +kernel
theorem dX4_landsByPaper_28 : decode cX4_landsByPaper 28 = .ok (.aload_n 0, 1) := by decide +kernel
theorem dX4_landsByPaper_29 : decode cX4_landsByPaper 29 = .ok (.iload 4, 2) := by decide +kernel
theorem dX4_landsByPaper_31 : decode cX4_landsByPaper 31 = .ok (.iload_n 1, 1) := by decide +kernel
theorem dX4_landsByPaper_32 : decode cX4_landsByPaper 32 = .ok (.iload_n 2, 1) := by decide +kernel
theorem dX4_landsByPaper_33 : decode cX4_landsByPaper 33 = .ok (.invokevirtual 54, 3) := by decide +kernel
theorem dX4_landsByPaper_36 : decode cX4_landsByPaper 36 = .ok (.iand, 1) := by decide +kernel
theorem dX4_landsByPaper_37 : decode cX4_landsByPaper 37 = .ok (.istore_n 3, 1) := by decide +kernel
theorem dX4_landsByPaper_38 : decode cX4_landsByPaper 38 = .ok (.iload 4, 2) := by decide +kernel
theorem dX4_landsByPaper_40 : decode cX4_landsByPaper 40 = .ok (.iconst 5, 1) := by decide +kernel
theorem dX4_landsByPaper_41 : decode cX4_landsByPaper 41 = .ok (.if_icmp .ne 16, 3) := by decide +kernel
theorem dX4_landsByPaper_44 : decode cX4_landsByPaper 44 = .ok (.iload_n 2, 1) := by decide +kernel
theorem dX4_landsByPaper_45 : decode cX4_landsByPaper 45 = .ok (.aload_n 0, 1) := by decide +kernel
theorem dX4_landsByPaper_46 : decode cX4_landsByPaper 46 = .ok (.getfield 21, 3) := by decide +kernel
theorem dX4_landsByPaper_49 : decode cX4_landsByPaper 49 = .ok (.iload_n 1, 1) := by decide +kernel
theorem dX4_landsByPaper_50 : decode cX4_landsByPaper 50 = .ok (.iaload, 1) := by decide +kernel
theorem dX4_landsByPaper_51 : decode cX4_landsByPaper 51 = .ok (.if_icmp .ne 6, 3) := by decide +kernel
theorem dX4_landsByPaper_54 : decode cX4_landsByPaper 54 = .ok (.goto 17, 3) := by decide +kernel
theorem dX4_landsByPaper_57 : decode cX4_landsByPaper 57 = .ok (.getstatic 58, 3) := by decide +kernel
theorem dX4_landsByPaper_60 : decode cX4_landsByPaper 60 = .ok (.iload 4, 2) := by decide +kernel
theorem dX4_landsByPaper_62 : decode cX4_landsByPaper 62 = .ok (.iaload, 1) := by decide +kernel
theorem dX4_landsByPaper_63 : decode cX4_landsByPaper 63 = .ok (.istore 4, 2) := by decide +kernel
theorem dX4_landsByPaper_65 : decode cX4_landsByPaper 65 = .ok (.iinc 5 1, 3) := by decide +kernel
theorem dX4_landsByPaper_68 : decode cX4_landsByPaper 68 = .ok (.goto (-54), 3) := by decide +kernel
theorem dX4_landsByPaper_71 : decode cX4_landsByPaper 71 = .ok (.iload_n 3, 1) := by decide +kernel
theorem dX4_landsByPaper_72 : decode cX4_landsByPaper 72 = .ok (.ireturn, 1) := by decide +kernel
theorem dX4_landsByKind_0 : decode cX4_landsByKind 0 = .ok (.iload_n 3, 1) := by decide +kernel
theorem dX4_landsByKind_1 : decode cX4_landsByKind 1 = .ok (.aload_n 0, 1) := by decide +kernel
theorem dX4_landsByKind_2 : decode cX4_landsByKind 2 = .ok (.getfield 21, 3) := by decide +kernel
theorem dX4_landsByKind_5 : decode cX4_landsByKind 5 = .ok (.iload_n 2, 1) := by decide +kernel
theorem dX4_landsByKind_6 : decode cX4_landsByKind 6 = .ok (.iaload, 1) := by decide +kernel
theorem dX4_landsByKind_7 : decode cX4_landsByKind 7 = .ok (.isub, 1) := by decide +kernel
theorem dX4_landsByKind_8 : decode cX4_landsByKind 8 = .ok (.istore 4, 2) := by decide +kernel
theorem dX4_landsByKind_10 : decode cX4_landsByKind 10 = .ok (.iconst 1, 1) := by decide +kernel
theorem dX4_landsByKind_11 : decode cX4_landsByKind 11 = .ok (.aload_n 0, 1) := by decide +kernel
theorem dX4_landsByKind_12 : decode cX4_landsByKind 12 = .ok (.getfield 15, 3) := by decide +kernel
theorem dX4_landsByKind_15 : decode cX4_landsByKind 15 = .ok (.iload_n 2, 1) := by decide +kernel
theorem dX4_landsByKind_16 : decode cX4_landsByKind 16 = .ok (.iaload, 1) := by decide +kernel
theorem dX4_landsByKind_17 : decode cX4_landsByKind 17 = .ok (.ishl, 1) := by decide +kernel
theorem dX4_landsByKind_18 : decode cX4_landsByKind 18 = .ok (.istore 5, 2) := by decide +kernel
theorem dX4_landsByKind_20 : decode cX4_landsByKind 20 = .ok (.iconst 1, 1) := by decide +kernel
theorem dX4_landsByKind_21 : decode cX4_landsByKind 21 = .ok (.aload_n 0, 1) := by decide +kernel
theorem dX4_landsByKind_22 : decode cX4_landsByKind 22 = .ok (.getfield 18, 3) := by decide +kernel
theorem dX4_landsByKind_25 : decode cX4_landsByKind 25 = .ok (.iload_n 2, 1) := by decide +kernel
theorem dX4_landsByKind_26 : decode cX4_landsByKind 26 = .ok (.iaload, 1) := by decide +kernel
theorem dX4_landsByKind_27 : decode cX4_landsByKind 27 = .ok (.ishl, 1) := by decide +kernel
theorem dX4_landsByKind_28 : decode cX4_landsByKind 28 = .ok (.istore 6, 2) := by decide +kernel
theorem dX4_landsByKind_30 : decode cX4_landsByKind 30 = .ok (.iload_n 1, 1) := by decide +kernel
theorem dX4_landsByKind_31 : decode cX4_landsByKind 31 = .ok (.tableswitch 141 0 5 #[37, 50, 67, 85, 103, 123], 37) := by decide +kernel
theorem dX4_landsByKind_68 : decode cX4_landsByKind 68 = .ok (.iload 4, 2) := by decide +kernel
theorem dX4_landsByKind_70 : decode cX4_landsByKind 70 = .ok (.ifCond .ne 8, 3) := by decide +kernel
theorem dX4_landsByKind_73 : decode cX4_landsByKind 73 = .ok (.iload 5, 2) := by decide +kernel
theorem dX4_landsByKind_75 : decode cX4_landsByKind 75 = .ok (.goto 5, 3) := by decide +kernel
theorem dX4_landsByKind_78 : decode cX4_landsByKind 78 = .ok (.bipush 31, 2) := by decide +kernel
theorem dX4_landsByKind_80 : decode cX4_landsByKind 80 = .ok (.ireturn, 1) := by decide +kernel
theorem dX4_landsByKind_81 : decode cX4_landsByKind 81 = .ok (.iload 4, 2) := by decide +kernel
theorem dX4_landsByKind_83 : decode cX4_landsByKind 83 = .ok (.iconst 1, 1) := by decide +kernel
theorem dX4_landsByKind_84 : decode cX4_landsByKind 84 = .ok (.if_icmp .ne 11, 3) := by decide +kernel
theorem dX4_landsByKind_87 : decode cX4_landsByKind 87 = .ok (.iload 5, 2) := by decide +kernel
theorem dX4_landsByKind_89 : decode cX4_landsByKind 89 = .ok (.iload 6, 2) := by decide +kernel
theorem dX4_landsByKind_91 : decode cX4_landsByKind 91 = .ok (.ior, 1) := by decide +kernel
theorem dX4_landsByKind_92 : decode cX4_landsByKind 92 = .ok (.goto 5, 3) := by decide +kernel
theorem dX4_landsByKind_95 : decode cX4_landsByKind 95 = .ok (.bipush 31, 2) := by decide +kernel
theorem dX4_landsByKind_97 : decode cX4_landsByKind 97 = .ok (.ireturn, 1) := by decide +kernel
theorem dX4_landsByKind_98 : decode cX4_landsByKind 98 = .ok (.iload 4, 2) := by decide +kernel
theorem dX4_landsByKind_100 : decode cX4_landsByKind 100 = .ok (.ifCond .ge 13, 3) := by decide +kernel
theorem dX4_landsByKind_103 : decode cX4_landsByKind 103 = .ok (.bipush 31, 2) := by decide +kernel
theorem dX4_landsByKind_105 : decode cX4_landsByKind 105 = .ok (.iload 5, 2) := by decide +kernel
theorem dX4_landsByKind_107 : decode cX4_landsByKind 107 = .ok (.iconst (-1), 1) := by decide +kernel
theorem dX4_landsByKind_108 : decode cX4_landsByKind 108 = .ok (.ixor, 1) := by decide +kernel
theorem dX4_landsByKind_109 : decode cX4_landsByKind 109 = .ok (.iand, 1) := by decide +kernel
theorem dX4_landsByKind_110 : decode cX4_landsByKind 110 = .ok (.goto 5, 3) := by decide +kernel
theorem dX4_landsByKind_113 : decode cX4_landsByKind 113 = .ok (.bipush 31, 2) := by decide +kernel
theorem dX4_landsByKind_115 : decode cX4_landsByKind 115 = .ok (.ireturn, 1) := by decide +kernel
theorem dX4_landsByKind_116 : decode cX4_landsByKind 116 = .ok (.iload 4, 2) := by decide +kernel
theorem dX4_landsByKind_118 : decode cX4_landsByKind 118 = .ok (.ifCond .ge 13, 3) := by decide +kernel
theorem dX4_landsByKind_121 : decode cX4_landsByKind 121 = .ok (.bipush 31, 2) := by decide +kernel
theorem dX4_landsByKind_123 : decode cX4_landsByKind 123 = .ok (.iload 6, 2) := by decide +kernel
theorem dX4_landsByKind_125 : decode cX4_landsByKind 125 = .ok (.iconst (-1), 1) := by decide +kernel
theorem dX4_landsByKind_126 : decode cX4_landsByKind 126 = .ok (.ixor, 1) := by decide +kernel
theorem dX4_landsByKind_127 : decode cX4_landsByKind 127 = .ok (.iand, 1) := by decide +kernel
theorem dX4_landsByKind_128 : decode cX4_landsByKind 128 = .ok (.goto 5, 3) := by decide +kernel
theorem dX4_landsByKind_131 : decode cX4_landsByKind 131 = .ok (.bipush 31, 2) := by decide +kernel
theorem dX4_landsByKind_133 : decode cX4_landsByKind 133 = .ok (.ireturn, 1) := by decide +kernel
theorem dX4_landsByKind_134 : decode cX4_landsByKind 134 = .ok (.iload 4, 2) := by decide +kernel
theorem dX4_landsByKind_136 : decode cX4_landsByKind 136 = .ok (.iconst 1, 1) := by decide +kernel
theorem dX4_landsByKind_137 : decode cX4_landsByKind 137 = .ok (.if_icmp .eq 9, 3) := by decide +kernel
theorem dX4_landsByKind_140 : decode cX4_landsByKind 140 = .ok (.iload 4, 2) := by decide +kernel
theorem dX4_landsByKind_142 : decode cX4_landsByKind 142 = .ok (.iconst 2, 1) := by decide +kernel
theorem dX4_landsByKind_143 : decode cX4_landsByKind 143 = .ok (.if_icmp .ne 8, 3) := by decide +kernel
theorem dX4_landsByKind_146 : decode cX4_landsByKind 146 = .ok (.iload 5, 2) := by decide +kernel
theorem dX4_landsByKind_148 : decode cX4_landsByKind 148 = .ok (.goto 5, 3) := by decide +kernel
theorem dX4_landsByKind_151 : decode cX4_landsByKind 151 = .ok (.bipush 31, 2) := by decide +kernel
theorem dX4_landsByKind_153 : decode cX4_landsByKind 153 = .ok (.ireturn, 1) := by decide +kernel
theorem dX4_landsByKind_154 : decode cX4_landsByKind 154 = .ok (.iload 4, 2) := by decide +kernel
theorem dX4_landsByKind_156 : decode cX4_landsByKind 156 = .ok (.ifCond .ne 13, 3) := by decide +kernel
theorem dX4_landsByKind_159 : decode cX4_landsByKind 159 = .ok (.bipush 31, 2) := by decide +kernel
theorem dX4_landsByKind_161 : decode cX4_landsByKind 161 = .ok (.iload 5, 2) := by decide +kernel
theorem dX4_landsByKind_163 : decode cX4_landsByKind 163 = .ok (.iconst (-1), 1) := by decide +kernel
theorem dX4_landsByKind_164 : decode cX4_landsByKind 164 = .ok (.ixor, 1) := by decide +kernel
theorem dX4_landsByKind_165 : decode cX4_landsByKind 165 = .ok (.iand, 1) := by decide +kernel
theorem dX4_landsByKind_166 : decode cX4_landsByKind 166 = .ok (.goto 5, 3) := by decide +kernel
theorem dX4_landsByKind_169 : decode cX4_landsByKind 169 = .ok (.bipush 31, 2) := by decide +kernel
theorem dX4_landsByKind_171 : decode cX4_landsByKind 171 = .ok (.ireturn, 1) := by decide +kernel
theorem dX4_landsByKind_172 : decode cX4_landsByKind 172 = .ok (.bipush 31, 2) := by decide +kernel
theorem dX4_landsByKind_174 : decode cX4_landsByKind 174 = .ok (.ireturn, 1) := by decide +kernel
theorem dX4_isUnder_0 : decode cX4_isUnder 0 = .ok (.iload_n 0, 1) := by decide +kernel
theorem dX4_isUnder_1 : decode cX4_isUnder 1 = .ok (.istore_n 2, 1) := by decide +kernel
theorem dX4_isUnder_2 : decode cX4_isUnder 2 = .ok (.iconst 0, 1) := by decide +kernel
theorem dX4_isUnder_3 : decode cX4_isUnder 3 = .ok (.istore_n 3, 1) := by decide +kernel
theorem dX4_isUnder_4 : decode cX4_isUnder 4 = .ok (.iload_n 3, 1) := by decide +kernel
theorem dX4_isUnder_5 : decode cX4_isUnder 5 = .ok (.bipush 6, 2) := by decide +kernel
theorem dX4_isUnder_7 : decode cX4_isUnder 7 = .ok (.if_icmp .ge 27, 3) := by decide +kernel
theorem dX4_isUnder_10 : decode cX4_isUnder 10 = .ok (.iload_n 2, 1) := by decide +kernel
theorem dX4_isUnder_11 : decode cX4_isUnder 11 = .ok (.iconst (-1), 1) := by decide +kernel
theorem dX4_isUnder_12 : decode cX4_isUnder 12 = .ok (.if_icmp .eq 22, 3) := by decide +kernel
theorem dX4_isUnder_15 : decode cX4_isUnder 15 = .ok (.iload_n 2, 1) := by decide +kernel
theorem dX4_isUnder_16 : decode cX4_isUnder 16 = .ok (.iload_n 1, 1) := by decide +kernel
theorem dX4_isUnder_17 : decode cX4_isUnder 17 = .ok (.if_icmp .ne 5, 3) := by decide +kernel
theorem dX4_isUnder_20 : decode cX4_isUnder 20 = .ok (.iconst 1, 1) := by decide +kernel
theorem dX4_isUnder_21 : decode cX4_isUnder 21 = .ok (.ireturn, 1) := by decide +kernel
theorem dX4_isUnder_22 : decode cX4_isUnder 22 = .ok (.getstatic 58, 3) := by decide +kernel
theorem dX4_isUnder_25 : decode cX4_isUnder 25 = .ok (.iload_n 2, 1) := by decide +kernel
theorem dX4_isUnder_26 : decode cX4_isUnder 26 = .ok (.iaload, 1) := by decide +kernel
theorem dX4_isUnder_27 : decode cX4_isUnder 27 = .ok (.istore_n 2, 1) := by decide +kernel
theorem dX4_isUnder_28 : decode cX4_isUnder 28 = .ok (.iinc 3 1, 3) := by decide +kernel
theorem dX4_isUnder_31 : decode cX4_isUnder 31 = .ok (.goto (-27), 3) := by decide +kernel
theorem dX4_isUnder_34 : decode cX4_isUnder 34 = .ok (.iconst 0, 1) := by decide +kernel
theorem dX4_isUnder_35 : decode cX4_isUnder 35 = .ok (.ireturn, 1) := by decide +kernel
theorem dX5_init_0 : decode cX5_init 0 = .ok (.aload_n 0, 1) := by decide +kernel
theorem dX5_init_1 : decode cX5_init 1 = .ok (.invokespecial 1, 3) := by decide +kernel
theorem dX5_init_4 : decode cX5_init 4 = .ok (.aload_n 0, 1) := by decide +kernel
theorem dX5_init_5 : decode cX5_init 5 = .ok (.sipush 160, 3) := by decide +kernel
theorem dX5_init_8 : decode cX5_init 8 = .ok (.newarray .byte, 2) := by decide +kernel
theorem dX5_init_10 : decode cX5_init 10 = .ok (.putfield 9, 3) := by decide +kernel
theorem dX5_init_13 : decode cX5_init 13 = .ok (.aload_n 0, 1) := by decide +kernel
theorem dX5_init_14 : decode cX5_init 14 = .ok (.sipush 160, 3) := by decide +kernel
theorem dX5_init_17 : decode cX5_init 17 = .ok (.newarray .int, 2) := by decide +kernel
theorem dX5_init_19 : decode cX5_init 19 = .ok (.putfield 13, 3) := by decide +kernel
theorem dX5_init_22 : decode cX5_init 22 = .ok (.return_, 1) := by decide +kernel
theorem dX5_take_0 : decode cX5_take 0 = .ok (.iconst 0, 1) := by decide +kernel
theorem dX5_take_1 : decode cX5_take 1 = .ok (.istore 4, 2) := by decide +kernel
theorem dX5_take_3 : decode cX5_take 3 = .ok (.iload 4, 2) := by decide +kernel
theorem dX5_take_5 : decode cX5_take 5 = .ok (.iload_n 1, 1) := by decide +kernel
theorem dX5_take_6 : decode cX5_take 6 = .ok (.if_icmp .ge 30, 3) := by decide +kernel
theorem dX5_take_9 : decode cX5_take 9 = .ok (.aload_n 0, 1) := by decide +kernel
theorem dX5_take_10 : decode cX5_take 10 = .ok (.getfield 9, 3) := by decide +kernel
theorem dX5_take_13 : decode cX5_take 13 = .ok (.aload_n 0, 1) := by decide +kernel
theorem dX5_take_14 : decode cX5_take 14 = .ok (.getfield 17, 3) := by decide +kernel
theorem dX5_take_17 : decode cX5_take 17 = .ok (.iload 4, 2) := by decide +kernel
theorem dX5_take_19 : decode cX5_take 19 = .ok (.iadd, 1) := by decide +kernel
theorem dX5_take_20 : decode cX5_take 20 = .ok (.lload_n 2, 1) := by decide +kernel
theorem dX5_take_21 : decode cX5_take 21 = .ok (.bipush 8, 2) := by decide +kernel
theorem dX5_take_23 : decode cX5_take 23 = .ok (.iload 4, 2) := by decide +kernel
theorem dX5_take_25 : decode cX5_take 25 = .ok (.imul, 1) := by decide +kernel
theorem dX5_take_26 : decode cX5_take 26 = .ok (.lshr, 1) := by decide +kernel
theorem dX5_take_27 : decode cX5_take 27 = .ok (.l2i, 1) := by decide +kernel
theorem dX5_take_28 : decode cX5_take 28 = .ok (.i2b, 1) := by decide +kernel
theorem dX5_take_29 : decode cX5_take 29 = .ok (.bastore, 1) := by decide +kernel
theorem dX5_take_30 : decode cX5_take 30 = .ok (.iinc 4 1, 3) := by decide +kernel
theorem dX5_take_33 : decode cX5_take 33 = .ok (.goto (-30), 3) := by decide +kernel
theorem dX5_take_36 : decode cX5_take 36 = .ok (.aload_n 0, 1) := by decide +kernel
theorem dX5_take_37 : decode cX5_take 37 = .ok (.dup, 1) := by decide +kernel
theorem dX5_take_38 : decode cX5_take 38 = .ok (.getfield 17, 3) := by decide +kernel
theorem dX5_take_41 : decode cX5_take 41 = .ok (.iload_n 1, 1) := by decide +kernel
theorem dX5_take_42 : decode cX5_take 42 = .ok (.iadd, 1) := by decide +kernel
theorem dX5_take_43 : decode cX5_take 43 = .ok (.putfield 17, 3) := by decide +kernel
theorem dX5_take_46 : decode cX5_take 46 = .ok (.aload_n 0, 1) := by decide +kernel
theorem dX5_take_47 : decode cX5_take 47 = .ok (.getfield 17, 3) := by decide +kernel
theorem dX5_take_50 : decode cX5_take 50 = .ok (.ireturn, 1) := by decide +kernel
theorem dX5_codeRead_0 : decode cX5_codeRead 0 = .ok (.aload_n 0, 1) := by decide +kernel
theorem dX5_codeRead_1 : decode cX5_codeRead 1 = .ok (.getfield 13, 3) := by decide +kernel
theorem dX5_codeRead_4 : decode cX5_codeRead 4 = .ok (.aload_n 0, 1) := by decide +kernel
theorem dX5_codeRead_5 : decode cX5_codeRead 5 = .ok (.getfield 21, 3) := by decide +kernel
theorem dX5_codeRead_8 : decode cX5_codeRead 8 = .ok (.invokestatic 24, 3) := by decide +kernel
theorem dX5_codeRead_11 : decode cX5_codeRead 11 = .ok (.areturn, 1) := by decide +kernel
theorem dX5_readText_0 : decode cX5_readText 0 = .ok (.aload_n 0, 1) := by decide +kernel
theorem dX5_readText_1 : decode cX5_readText 1 = .ok (.iconst 0, 1) := by decide +kernel
theorem dX5_readText_2 : decode cX5_readText 2 = .ok (.putfield 21, 3) := by decide +kernel
theorem dX5_readText_5 : decode cX5_readText 5 = .ok (.aload_n 0, 1) := by decide +kernel
theorem dX5_readText_6 : decode cX5_readText 6 = .ok (.iconst 0, 1) := by decide +kernel
theorem dX5_readText_7 : decode cX5_readText 7 = .ok (.putfield 30, 3) := by decide +kernel
theorem dX5_readText_10 : decode cX5_readText 10 = .ok (.aload_n 0, 1) := by decide +kernel
theorem dX5_readText_11 : decode cX5_readText 11 = .ok (.iconst 0, 1) := by decide +kernel
theorem dX5_readText_12 : decode cX5_readText 12 = .ok (.putfield 33, 3) := by decide +kernel
theorem dX5_readText_15 : decode cX5_readText 15 = .ok (.aload_n 0, 1) := by decide +kernel
theorem dX5_readText_16 : decode cX5_readText 16 = .ok (.invokevirtual 36, 3) := by decide +kernel
theorem dX5_readText_19 : decode cX5_readText 19 = .ok (.aload_n 0, 1) := by decide +kernel
theorem dX5_readText_20 : decode cX5_readText 20 = .ok (.iconst 3, 1) := by decide +kernel
theorem dX5_readText_21 : decode cX5_readText 21 = .ok (.invokevirtual 39, 3) := by decide +kernel
theorem dX5_readText_24 : decode cX5_readText 24 = .ok (.ifCond .ne 8, 3) := by decide +kernel
theorem dX5_readText_27 : decode cX5_readText 27 = .ok (.aload_n 0, 1) := by decide +kernel
theorem dX5_readText_28 : decode cX5_readText 28 = .ok (.getfield 43, 3) := by decide +kernel
theorem dX5_readText_31 : decode cX5_readText 31 = .ok (.ireturn, 1) := by decide +kernel
theorem dX5_readText_32 : decode cX5_readText 32 = .ok (.aload_n 0, 1) := by decide +kernel
theorem dX5_readText_33 : decode cX5_readText 33 = .ok (.aload_n 0, 1) := by decide +kernel
theorem dX5_readText_34 : decode cX5_readText 34 = .ok (.getfield 21, 3) := by decide +kernel
theorem dX5_readText_37 : decode cX5_readText 37 = .ok (.putfield 30, 3) := by decide +kernel
theorem dX5_readText_40 : decode cX5_readText 40 = .ok (.aload_n 0, 1) := by decide +kernel
theorem dX5_readText_41 : decode cX5_readText 41 = .ok (.iconst 4, 1) := by decide +kernel
theorem dX5_readText_42 : decode cX5_readText 42 = .ok (.invokevirtual 39, 3) := by decide +kernel
theorem dX5_readText_45 : decode cX5_readText 45 = .ok (.ifCond .eq 10, 3) := by decide +kernel
theorem dX5_readText_48 : decode cX5_readText 48 = .ok (.aload_n 0, 1) := by decide +kernel
theorem dX5_readText_49 : decode cX5_readText 49 = .ok (.getfield 46, 3) := by decide +kernel
theorem dX5_readText_52 : decode cX5_readText 52 = .ok (.ifCond .eq 8, 3) := by decide +kernel
theorem dX5_readText_55 : decode cX5_readText 55 = .ok (.aload_n 0, 1) := by decide +kernel
theorem dX5_readText_56 : decode cX5_readText 56 = .ok (.getfield 43, 3) := by decide +kernel
theorem dX5_readText_59 : decode cX5_readText 59 = .ok (.ireturn, 1) := by decide +kernel
theorem dX5_readText_60 : decode cX5_readText 60 = .ok (.iconst (-1), 1) := by decide +kernel
theorem dX5_readText_61 : decode cX5_readText 61 = .ok (.ireturn, 1) := by decide +kernel
theorem dX5_readPart_0 : decode cX5_readPart 0 = .ok (.aload_n 0, 1) := by decide +kernel
theorem dX5_readPart_1 : decode cX5_readPart 1 = .ok (.iload_n 1, 1) := by decide +kernel
theorem dX5_readPart_2 : decode cX5_readPart 2 = .ok (.invokevirtual 49, 3) := by decide +kernel
theorem dX5_readPart_5 : decode cX5_readPart 5 = .ok (.ifCond .eq 24, 3) := by decide +kernel
theorem dX5_readPart_8 : decode cX5_readPart 8 = .ok (.aload_n 0, 1) := by decide +kernel
theorem dX5_readPart_9 : decode cX5_readPart 9 = .ok (.iconst 0, 1) := by decide +kernel
theorem dX5_readPart_10 : decode cX5_readPart 10 = .ok (.invokevirtual 52, 3) := by decide +kernel
theorem dX5_readPart_13 : decode cX5_readPart 13 = .ok (.ifCond .eq 16, 3) := by decide +kernel
theorem dX5_readPart_16 : decode cX5_readPart 16 = .ok (.aload_n 0, 1) := by decide +kernel
theorem dX5_readPart_17 : decode cX5_readPart 17 = .ok (.bipush 59, 2) := by decide +kernel
theorem dX5_readPart_19 : decode cX5_readPart 19 = .ok (.invokevirtual 49, 3) := by decide +kernel
theorem dX5_readPart_22 : decode cX5_readPart 22 = .ok (.ifCond .eq 7, 3) := by decide +kernel
theorem dX5_readPart_25 : decode cX5_readPart 25 = .ok (.iconst 1, 1) := by decide +kernel
theorem dX5_readPart_26 : decode cX5_readPart 26 = .ok (.goto 4, 3) := by decide +kernel
theorem dX5_readPart_29 : decode cX5_readPart 29 = .ok (.iconst 0, 1) := by decide +kernel
theorem dX5_readPart_30 : decode cX5_readPart 30 = .ok (.ireturn, 1) := by decide +kernel
theorem dX5_readOr_0 : decode cX5_readOr 0 = .ok (.aload_n 0, 1) := by decide +kernel
theorem dX5_readOr_1 : decode cX5_readOr 1 = .ok (.iload_n 1, 1) := by decide +kernel
theorem dX5_readOr_2 : decode cX5_readOr 2 = .ok (.invokevirtual 55, 3) := by decide +kernel
theorem dX5_readOr_5 : decode cX5_readOr 5 = .ok (.ifCond .ne 5, 3) := by decide +kernel
theorem dX5_readOr_8 : decode cX5_readOr 8 = .ok (.iconst 0, 1) := by decide +kernel
theorem dX5_readOr_9 : decode cX5_readOr 9 = .ok (.ireturn, 1) := by decide +kernel
theorem dX5_readOr_10 : decode cX5_readOr 10 = .ok (.iconst 0, 1) := by decide +kernel
theorem dX5_readOr_11 : decode cX5_readOr 11 = .ok (.istore_n 2, 1) := by decide +kernel
theorem dX5_readOr_12 : decode cX5_readOr 12 = .ok (.iload_n 2, 1) := by decide +kernel
theorem dX5_readOr_13 : decode cX5_readOr 13 = .ok (.sipush 160, 3) := by decide +kernel
theorem dX5_readOr_16 : decode cX5_readOr 16 = .ok (.if_icmp .ge 39, 3) := by decide +kernel
theorem dX5_readOr_19 : decode cX5_readOr 19 = .ok (.aload_n 0, 1) := by decide +kernel
theorem dX5_readOr_20 : decode cX5_readOr 20 = .ok (.getfield 46, 3) := by decide +kernel
theorem dX5_readOr_23 : decode cX5_readOr 23 = .ok (.bipush (-9), 2) := by decide +kernel
theorem dX5_readOr_25 : decode cX5_readOr 25 = .ok (.if_icmp .ne 30, 3) := by decide +kernel
theorem dX5_readOr_28 : decode cX5_readOr 28 = .ok (.aload_n 0, 1) := by decide +kernel
theorem dX5_readOr_29 : decode cX5_readOr 29 = .ok (.invokevirtual 36, 3) := by decide +kernel
theorem dX5_readOr_32 : decode cX5_readOr 32 = .ok (.aload_n 0, 1) := by decide +kernel
theorem dX5_readOr_33 : decode cX5_readOr 33 = .ok (.iload_n 1, 1) := by decide +kernel
theorem dX5_readOr_34 : decode cX5_readOr 34 = .ok (.invokevirtual 55, 3) := by decide +kernel
theorem dX5_readOr_37 : decode cX5_readOr 37 = .ok (.ifCond .ne 5, 3) := by decide +kernel
theorem dX5_readOr_40 : decode cX5_readOr 40 = .ok (.iconst 0, 1) := by decide +kernel
theorem dX5_readOr_41 : decode cX5_readOr 41 = .ok (.ireturn, 1) := by decide +kernel
theorem dX5_readOr_42 : decode cX5_readOr 42 = .ok (.aload_n 0, 1) := by decide +kernel
theorem dX5_readOr_43 : decode cX5_readOr 43 = .ok (.bipush (-9), 2) := by decide +kernel
theorem dX5_readOr_45 : decode cX5_readOr 45 = .ok (.invokevirtual 58, 3) := by decide +kernel
theorem dX5_readOr_48 : decode cX5_readOr 48 = .ok (.pop, 1) := by decide +kernel
theorem dX5_readOr_49 : decode cX5_readOr 49 = .ok (.iinc 2 1, 3) := by decide +kernel
theorem dX5_readOr_52 : decode cX5_readOr 52 = .ok (.goto (-40), 3) := by decide +kernel
theorem dX5_readOr_55 : decode cX5_readOr 55 = .ok (.iconst 1, 1) := by decide +kernel
theorem dX5_readOr_56 : decode cX5_readOr 56 = .ok (.ireturn, 1) := by decide +kernel
theorem dX5_readAnd_0 : decode cX5_readAnd 0 = .ok (.aload_n 0, 1) := by decide +kernel
theorem dX5_readAnd_1 : decode cX5_readAnd 1 = .ok (.iload_n 1, 1) := by decide +kernel
theorem dX5_readAnd_2 : decode cX5_readAnd 2 = .ok (.invokevirtual 61, 3) := by decide +kernel
theorem dX5_readAnd_5 : decode cX5_readAnd 5 = .ok (.ifCond .ne 5, 3) := by decide +kernel
theorem dX5_readAnd_8 : decode cX5_readAnd 8 = .ok (.iconst 0, 1) := by decide +kernel
theorem dX5_readAnd_9 : decode cX5_readAnd 9 = .ok (.ireturn, 1) := by decide +kernel
theorem dX5_readAnd_10 : decode cX5_readAnd 10 = .ok (.iconst 0, 1) := by decide +kernel
theorem dX5_readAnd_11 : decode cX5_readAnd 11 = .ok (.istore_n 2, 1) := by decide +kernel
theorem dX5_readAnd_12 : decode cX5_readAnd 12 = .ok (.iload_n 2, 1) := by decide +kernel
theorem dX5_readAnd_13 : decode cX5_readAnd 13 = .ok (.sipush 160, 3) := by decide +kernel
theorem dX5_readAnd_16 : decode cX5_readAnd 16 = .ok (.if_icmp .ge 39, 3) := by decide +kernel
theorem dX5_readAnd_19 : decode cX5_readAnd 19 = .ok (.aload_n 0, 1) := by decide +kernel
theorem dX5_readAnd_20 : decode cX5_readAnd 20 = .ok (.getfield 46, 3) := by decide +kernel
theorem dX5_readAnd_23 : decode cX5_readAnd 23 = .ok (.bipush (-10), 2) := by decide +kernel
theorem dX5_readAnd_25 : decode cX5_readAnd 25 = .ok (.if_icmp .ne 30, 3) := by decide +kernel
theorem dX5_readAnd_28 : decode cX5_readAnd 28 = .ok (.aload_n 0, 1) := by decide +kernel
theorem dX5_readAnd_29 : decode cX5_readAnd 29 = .ok (.invokevirtual 36, 3) := by decide +kernel
theorem dX5_readAnd_32 : decode cX5_readAnd 32 = .ok (.aload_n 0, 1) := by decide +kernel
theorem dX5_readAnd_33 : decode cX5_readAnd 33 = .ok (.iload_n 1, 1) := by decide +kernel
theorem dX5_readAnd_34 : decode cX5_readAnd 34 = .ok (.invokevirtual 61, 3) := by decide +kernel
theorem dX5_readAnd_37 : decode cX5_readAnd 37 = .ok (.ifCond .ne 5, 3) := by decide +kernel
theorem dX5_readAnd_40 : decode cX5_readAnd 40 = .ok (.iconst 0, 1) := by decide +kernel
theorem dX5_readAnd_41 : decode cX5_readAnd 41 = .ok (.ireturn, 1) := by decide +kernel
theorem dX5_readAnd_42 : decode cX5_readAnd 42 = .ok (.aload_n 0, 1) := by decide +kernel
theorem dX5_readAnd_43 : decode cX5_readAnd 43 = .ok (.bipush (-10), 2) := by decide +kernel
theorem dX5_readAnd_45 : decode cX5_readAnd 45 = .ok (.invokevirtual 58, 3) := by decide +kernel
theorem dX5_readAnd_48 : decode cX5_readAnd 48 = .ok (.pop, 1) := by decide +kernel
theorem dX5_readAnd_49 : decode cX5_readAnd 49 = .ok (.iinc 2 1, 3) := by decide +kernel
theorem dX5_readAnd_52 : decode cX5_readAnd 52 = .ok (.goto (-40), 3) := by decide +kernel
theorem dX5_readAnd_55 : decode cX5_readAnd 55 = .ok (.iconst 1, 1) := by decide +kernel
theorem dX5_readAnd_56 : decode cX5_readAnd 56 = .ok (.ireturn, 1) := by decide +kernel
theorem dX5_readNot_0 : decode cX5_readNot 0 = .ok (.aload_n 0, 1) := by decide +kernel
theorem dX5_readNot_1 : decode cX5_readNot 1 = .ok (.getfield 46, 3) := by decide +kernel
theorem dX5_readNot_4 : decode cX5_readNot 4 = .ok (.bipush (-8), 2) := by decide +kernel
theorem dX5_readNot_6 : decode cX5_readNot 6 = .ok (.if_icmp .ne 39, 3) := by decide +kernel
theorem dX5_readNot_9 : decode cX5_readNot 9 = .ok (.iload_n 1, 1) := by decide +kernel
theorem dX5_readNot_10 : decode cX5_readNot 10 = .ok (.iconst 5, 1) := by decide +kernel
theorem dX5_readNot_11 : decode cX5_readNot 11 = .ok (.if_icmp .lt 5, 3) := by decide +kernel
theorem dX5_readNot_14 : decode cX5_readNot 14 = .ok (.iconst 0, 1) := by decide +kernel
theorem dX5_readNot_15 : decode cX5_readNot 15 = .ok (.ireturn, 1) := by decide +kernel
theorem dX5_readNot_16 : decode cX5_readNot 16 = .ok (.aload_n 0, 1) := by decide +kernel
theorem dX5_readNot_17 : decode cX5_readNot 17 = .ok (.invokevirtual 36, 3) := by decide +kernel
theorem dX5_readNot_20 : decode cX5_readNot 20 = .ok (.aload_n 0, 1) := by decide +kernel
theorem dX5_readNot_21 : decode cX5_readNot 21 = .ok (.iload_n 1, 1) := by decide +kernel
theorem dX5_readNot_22 : decode cX5_readNot 22 = .ok (.iconst 1, 1) := by decide +kernel
theorem dX5_readNot_23 : decode cX5_readNot 23 = .ok (.iadd, 1) := by decide +kernel
theorem dX5_readNot_24 : decode cX5_readNot 24 = .ok (.invokevirtual 61, 3) := by decide +kernel
theorem dX5_readNot_27 : decode cX5_readNot 27 = .ok (.ifCond .eq 16, 3) := by decide +kernel
theorem dX5_readNot_30 : decode cX5_readNot 30 = .ok (.aload_n 0, 1) := by decide +kernel
theorem dX5_readNot_31 : decode cX5_readNot 31 = .ok (.bipush (-8), 2) := by decide +kernel
theorem dX5_readNot_33 : decode cX5_readNot 33 = .ok (.invokevirtual 58, 3) := by decide +kernel
theorem dX5_readNot_36 : decode cX5_readNot 36 = .ok (.ifCond .eq 7, 3) := by decide +kernel
theorem dX5_readNot_39 : decode cX5_readNot 39 = .ok (.iconst 1, 1) := by decide +kernel
theorem dX5_readNot_40 : decode cX5_readNot 40 = .ok (.goto 4, 3) := by decide +kernel
theorem dX5_readNot_43 : decode cX5_readNot 43 = .ok (.iconst 0, 1) := by decide +kernel
theorem dX5_readNot_44 : decode cX5_readNot 44 = .ok (.ireturn, 1) := by decide +kernel
theorem dX5_readNot_45 : decode cX5_readNot 45 = .ok (.aload_n 0, 1) := by decide +kernel
theorem dX5_readNot_46 : decode cX5_readNot 46 = .ok (.iload_n 1, 1) := by decide +kernel
theorem dX5_readNot_47 : decode cX5_readNot 47 = .ok (.invokevirtual 64, 3) := by decide +kernel
theorem dX5_readNot_50 : decode cX5_readNot 50 = .ok (.ifCond .ne 5, 3) := by decide +kernel
theorem dX5_readNot_53 : decode cX5_readNot 53 = .ok (.iconst 0, 1) := by decide +kernel
theorem dX5_readNot_54 : decode cX5_readNot 54 = .ok (.ireturn, 1) := by decide +kernel
theorem dX5_readNot_55 : decode cX5_readNot 55 = .ok (.aload_n 0, 1) := by decide +kernel
theorem dX5_readNot_56 : decode cX5_readNot 56 = .ok (.getfield 46, 3) := by decide +kernel
theorem dX5_readNot_59 : decode cX5_readNot 59 = .ok (.bipush 60, 2) := by decide +kernel
theorem dX5_readNot_61 : decode cX5_readNot 61 = .ok (.if_icmp .eq 14, 3) := by decide +kernel
theorem dX5_readNot_64 : decode cX5_readNot 64 = .ok (.aload_n 0, 1) := by decide +kernel
theorem dX5_readNot_65 : decode cX5_readNot 65 = .ok (.getfield 46, 3) := by decide +kernel
theorem dX5_readNot_68 : decode cX5_readNot 68 = .ok (.bipush 61, 2) := by decide +kernel
theorem dX5_readNot_70 : decode cX5_readNot 70 = .ok (.if_icmp .eq 5, 3) := by decide +kernel
theorem dX5_readNot_73 : decode cX5_readNot 73 = .ok (.iconst 1, 1) := by decide +kernel
theorem dX5_readNot_74 : decode cX5_readNot 74 = .ok (.ireturn, 1) := by decide +kernel
theorem dX5_readNot_75 : decode cX5_readNot 75 = .ok (.aload_n 0, 1) := by decide +kernel
theorem dX5_readNot_76 : decode cX5_readNot 76 = .ok (.getfield 46, 3) := by decide +kernel
theorem dX5_readNot_79 : decode cX5_readNot 79 = .ok (.bipush 60, 2) := by decide +kernel
theorem dX5_readNot_81 : decode cX5_readNot 81 = .ok (.if_icmp .ne 8, 3) := by decide +kernel
theorem dX5_readNot_84 : decode cX5_readNot 84 = .ok (.bipush (-11), 2) := by decide +kernel
theorem dX5_readNot_86 : decode cX5_readNot 86 = .ok (.goto 5, 3) := by decide +kernel
theorem dX5_readNot_89 : decode cX5_readNot 89 = .ok (.bipush (-12), 2) := by decide +kernel
theorem dX5_readNot_91 : decode cX5_readNot 91 = .ok (.istore_n 2, 1) := by decide +kernel
theorem dX5_readNot_92 : decode cX5_readNot 92 = .ok (.aload_n 0, 1) := by decide +kernel
theorem dX5_readNot_93 : decode cX5_readNot 93 = .ok (.invokevirtual 36, 3) := by decide +kernel
theorem dX5_readNot_96 : decode cX5_readNot 96 = .ok (.aload_n 0, 1) := by decide +kernel
theorem dX5_readNot_97 : decode cX5_readNot 97 = .ok (.iload_n 1, 1) := by decide +kernel
theorem dX5_readNot_98 : decode cX5_readNot 98 = .ok (.invokevirtual 64, 3) := by decide +kernel
theorem dX5_readNot_101 : decode cX5_readNot 101 = .ok (.ifCond .eq 15, 3) := by decide +kernel
theorem dX5_readNot_104 : decode cX5_readNot 104 = .ok (.aload_n 0, 1) := by decide +kernel
theorem dX5_readNot_105 : decode cX5_readNot 105 = .ok (.iload_n 2, 1) := by decide +kernel
theorem dX5_readNot_106 : decode cX5_readNot 106 = .ok (.invokevirtual 58, 3) := by decide +kernel
theorem dX5_readNot_109 : decode cX5_readNot 109 = .ok (.ifCond .eq 7, 3) := by decide +kernel
theorem dX5_readNot_112 : decode cX5_readNot 112 = .ok (.iconst 1, 1) := by decide +kernel
theorem dX5_readNot_113 : decode cX5_readNot 113 = .ok (.goto 4, 3) := by decide +kernel
theorem dX5_readNot_116 : decode cX5_readNot 116 = .ok (.iconst 0, 1) := by decide +kernel
theorem dX5_readNot_117 : decode cX5_readNot 117 = .ok (.ireturn, 1) := by decide +kernel
theorem dX5_readSum_0 : decode cX5_readSum 0 = .ok (.aload_n 0, 1) := by decide +kernel
theorem dX5_readSum_1 : decode cX5_readSum 1 = .ok (.iload_n 1, 1) := by decide +kernel
theorem dX5_readSum_2 : decode cX5_readSum 2 = .ok (.invokevirtual 67, 3) := by decide +kernel
theorem dX5_readSum_5 : decode cX5_readSum 5 = .ok (.ifCond .ne 5, 3) := by decide +kernel
theorem dX5_readSum_8 : decode cX5_readSum 8 = .ok (.iconst 0, 1) := by decide +kernel
theorem dX5_readSum_9 : decode cX5_readSum 9 = .ok (.ireturn, 1) := by decide +kernel
theorem dX5_readSum_10 : decode cX5_readSum 10 = .ok (.iconst 0, 1) := by decide +kernel
theorem dX5_readSum_11 : decode cX5_readSum 11 = .ok (.istore_n 2, 1) := by decide +kernel
theorem dX5_readSum_12 : decode cX5_readSum 12 = .ok (.iload_n 2, 1) := by decide +kernel
theorem dX5_readSum_13 : decode cX5_readSum 13 = .ok (.sipush 160, 3) := by decide +kernel
theorem dX5_readSum_16 : decode cX5_readSum 16 = .ok (.if_icmp .ge 64, 3) := by decide +kernel
theorem dX5_readSum_19 : decode cX5_readSum 19 = .ok (.aload_n 0, 1) := by decide +kernel
theorem dX5_readSum_20 : decode cX5_readSum 20 = .ok (.getfield 46, 3) := by decide +kernel
theorem dX5_readSum_23 : decode cX5_readSum 23 = .ok (.bipush 43, 2) := by decide +kernel
theorem dX5_readSum_25 : decode cX5_readSum 25 = .ok (.if_icmp .eq 12, 3) := by decide +kernel
theorem dX5_readSum_28 : decode cX5_readSum 28 = .ok (.aload_n 0, 1) := by decide +kernel
theorem dX5_readSum_29 : decode cX5_readSum 29 = .ok (.getfield 46, 3) := by decide +kernel
theorem dX5_readSum_32 : decode cX5_readSum 32 = .ok (.bipush 45, 2) := by decide +kernel
theorem dX5_readSum_34 : decode cX5_readSum 34 = .ok (.if_icmp .ne 46, 3) := by decide +kernel
theorem dX5_readSum_37 : decode cX5_readSum 37 = .ok (.aload_n 0, 1) := by decide +kernel
theorem dX5_readSum_38 : decode cX5_readSum 38 = .ok (.getfield 46, 3) := by decide +kernel
theorem dX5_readSum_41 : decode cX5_readSum 41 = .ok (.bipush 43, 2) := by decide +kernel
theorem dX5_readSum_43 : decode cX5_readSum 43 = .ok (.if_icmp .ne 8, 3) := by decide +kernel
theorem dX5_readSum_46 : decode cX5_readSum 46 = .ok (.bipush (-13), 2) := by decide +kernel
theorem dX5_readSum_48 : decode cX5_readSum 48 = .ok (.goto 5, 3) := by decide +kernel
theorem dX5_readSum_51 : decode cX5_readSum 51 = .ok (.bipush (-14), 2) := by decide +kernel
theorem dX5_readSum_53 : decode cX5_readSum 53 = .ok (.istore_n 3, 1) := by decide +kernel
theorem dX5_readSum_54 : decode cX5_readSum 54 = .ok (.aload_n 0, 1) := by decide +kernel
theorem dX5_readSum_55 : decode cX5_readSum 55 = .ok (.invokevirtual 36, 3) := by decide +kernel
theorem dX5_readSum_58 : decode cX5_readSum 58 = .ok (.aload_n 0, 1) := by decide +kernel
theorem dX5_readSum_59 : decode cX5_readSum 59 = .ok (.iload_n 1, 1) := by decide +kernel
theorem dX5_readSum_60 : decode cX5_readSum 60 = .ok (.invokevirtual 67, 3) := by decide +kernel
theorem dX5_readSum_63 : decode cX5_readSum 63 = .ok (.ifCond .ne 5, 3) := by decide +kernel
theorem dX5_readSum_66 : decode cX5_readSum 66 = .ok (.iconst 0, 1) := by decide +kernel
theorem dX5_readSum_67 : decode cX5_readSum 67 = .ok (.ireturn, 1) := by decide +kernel
theorem dX5_readSum_68 : decode cX5_readSum 68 = .ok (.aload_n 0, 1) := by decide +kernel
theorem dX5_readSum_69 : decode cX5_readSum 69 = .ok (.iload_n 3, 1) := by decide +kernel
theorem dX5_readSum_70 : decode cX5_readSum 70 = .ok (.invokevirtual 58, 3) := by decide +kernel
theorem dX5_readSum_73 : decode cX5_readSum 73 = .ok (.pop, 1) := by decide +kernel
theorem dX5_readSum_74 : decode cX5_readSum 74 = .ok (.iinc 2 1, 3) := by decide +kernel
theorem dX5_readSum_77 : decode cX5_readSum 77 = .ok (.goto (-65), 3) := by decide +kernel
theorem dX5_readSum_80 : decode cX5_readSum 80 = .ok (.iconst 1, 1) := by decide +kernel
theorem dX5_readSum_81 : decode cX5_readSum 81 = .ok (.ireturn, 1) := by decide +kernel
theorem dX5_readTerm_0 : decode cX5_readTerm 0 = .ok (.aload_n 0, 1) := by decide +kernel
theorem dX5_readTerm_1 : decode cX5_readTerm 1 = .ok (.iload_n 1, 1) := by decide +kernel
theorem dX5_readTerm_2 : decode cX5_readTerm 2 = .ok (.invokevirtual 70, 3) := by decide +kernel
theorem dX5_readTerm_5 : decode cX5_readTerm 5 = .ok (.ifCond .ne 5, 3) := by decide +kernel
theorem dX5_readTerm_8 : decode cX5_readTerm 8 = .ok (.iconst 0, 1) := by decide +kernel
theorem dX5_readTerm_9 : decode cX5_readTerm 9 = .ok (.ireturn, 1) := by decide +kernel
theorem dX5_readTerm_10 : decode cX5_readTerm 10 = .ok (.iconst 0, 1) := by decide +kernel
theorem dX5_readTerm_11 : decode cX5_readTerm 11 = .ok (.istore_n 2, 1) := by decide +kernel
theorem dX5_readTerm_12 : decode cX5_readTerm 12 = .ok (.iload_n 2, 1) := by decide +kernel
theorem dX5_readTerm_13 : decode cX5_readTerm 13 = .ok (.sipush 160, 3) := by decide +kernel
theorem dX5_readTerm_16 : decode cX5_readTerm 16 = .ok (.if_icmp .ge 39, 3) := by decide +kernel
theorem dX5_readTerm_19 : decode cX5_readTerm 19 = .ok (.aload_n 0, 1) := by decide +kernel
theorem dX5_readTerm_20 : decode cX5_readTerm 20 = .ok (.getfield 46, 3) := by decide +kernel
theorem dX5_readTerm_23 : decode cX5_readTerm 23 = .ok (.bipush 42, 2) := by decide +kernel
theorem dX5_readTerm_25 : decode cX5_readTerm 25 = .ok (.if_icmp .ne 30, 3) := by decide +kernel
theorem dX5_readTerm_28 : decode cX5_readTerm 28 = .ok (.aload_n 0, 1) := by decide +kernel
theorem dX5_readTerm_29 : decode cX5_readTerm 29 = .ok (.invokevirtual 36, 3) := by decide +kernel
theorem dX5_readTerm_32 : decode cX5_readTerm 32 = .ok (.aload_n 0, 1) := by decide +kernel
theorem dX5_readTerm_33 : decode cX5_readTerm 33 = .ok (.iload_n 1, 1) := by decide +kernel
theorem dX5_readTerm_34 : decode cX5_readTerm 34 = .ok (.invokevirtual 70, 3) := by decide +kernel
theorem dX5_readTerm_37 : decode cX5_readTerm 37 = .ok (.ifCond .ne 5, 3) := by decide +kernel
theorem dX5_readTerm_40 : decode cX5_readTerm 40 = .ok (.iconst 0, 1) := by decide +kernel
theorem dX5_readTerm_41 : decode cX5_readTerm 41 = .ok (.ireturn, 1) := by decide +kernel
theorem dX5_readTerm_42 : decode cX5_readTerm 42 = .ok (.aload_n 0, 1) := by decide +kernel
theorem dX5_readTerm_43 : decode cX5_readTerm 43 = .ok (.bipush (-15), 2) := by decide +kernel
theorem dX5_readTerm_45 : decode cX5_readTerm 45 = .ok (.invokevirtual 58, 3) := by decide +kernel
theorem dX5_readTerm_48 : decode cX5_readTerm 48 = .ok (.pop, 1) := by decide +kernel
theorem dX5_readTerm_49 : decode cX5_readTerm 49 = .ok (.iinc 2 1, 3) := by decide +kernel
theorem dX5_readTerm_52 : decode cX5_readTerm 52 = .ok (.goto (-40), 3) := by decide +kernel
theorem dX5_readTerm_55 : decode cX5_readTerm 55 = .ok (.iconst 1, 1) := by decide +kernel
theorem dX5_readTerm_56 : decode cX5_readTerm 56 = .ok (.ireturn, 1) := by decide +kernel
theorem dX5_readOne_0 : decode cX5_readOne 0 = .ok (.aload_n 0, 1) := by decide +kernel
theorem dX5_readOne_1 : decode cX5_readOne 1 = .ok (.getfield 46, 3) := by decide +kernel
theorem dX5_readOne_4 : decode cX5_readOne 4 = .ok (.iconst 2, 1) := by decide +kernel
theorem dX5_readOne_5 : decode cX5_readOne 5 = .ok (.if_icmp .eq 20, 3) := by decide +kernel
theorem dX5_readOne_8 : decode cX5_readOne 8 = .ok (.aload_n 0, 1) := by decide +kernel
theorem dX5_readOne_9 : decode cX5_readOne 9 = .ok (.getfield 46, 3) := by decide +kernel
theorem dX5_readOne_12 : decode cX5_readOne 12 = .ok (.iconst (-1), 1) := by decide +kernel
theorem dX5_readOne_13 : decode cX5_readOne 13 = .ok (.if_icmp .gt 42, 3) := by decide +kernel
theorem dX5_readOne_16 : decode cX5_readOne 16 = .ok (.aload_n 0, 1) := by decide +kernel
theorem dX5_readOne_17 : decode cX5_readOne 17 = .ok (.getfield 46, 3) := by decide +kernel
theorem dX5_readOne_20 : decode cX5_readOne 20 = .ok (.bipush (-6), 2) := by decide +kernel
theorem dX5_readOne_22 : decode cX5_readOne 22 = .ok (.if_icmp .lt 33, 3) := by decide +kernel
theorem dX5_readOne_25 : decode cX5_readOne 25 = .ok (.aload_n 0, 1) := by decide +kernel
theorem dX5_readOne_26 : decode cX5_readOne 26 = .ok (.aload_n 0, 1) := by decide +kernel
theorem dX5_readOne_27 : decode cX5_readOne 27 = .ok (.getfield 46, 3) := by decide +kernel
theorem dX5_readOne_30 : decode cX5_readOne 30 = .ok (.iconst 2, 1) := by decide +kernel
theorem dX5_readOne_31 : decode cX5_readOne 31 = .ok (.if_icmp .ne 10, 3) := by decide +kernel
theorem dX5_readOne_34 : decode cX5_readOne 34 = .ok (.aload_n 0, 1) := by decide +kernel
theorem dX5_readOne_35 : decode cX5_readOne 35 = .ok (.getfield 73, 3) := by decide +kernel
theorem dX5_readOne_38 : decode cX5_readOne 38 = .ok (.goto 7, 3) := by decide +kernel
theorem dX5_readOne_41 : decode cX5_readOne 41 = .ok (.aload_n 0, 1) := by decide +kernel
theorem dX5_readOne_42 : decode cX5_readOne 42 = .ok (.getfield 46, 3) := by decide +kernel
theorem dX5_readOne_45 : decode cX5_readOne 45 = .ok (.invokevirtual 58, 3) := by decide +kernel
theorem dX5_readOne_48 : decode cX5_readOne 48 = .ok (.pop, 1) := by decide +kernel
theorem dX5_readOne_49 : decode cX5_readOne 49 = .ok (.aload_n 0, 1) := by decide +kernel
theorem dX5_readOne_50 : decode cX5_readOne 50 = .ok (.invokevirtual 36, 3) := by decide +kernel
theorem dX5_readOne_53 : decode cX5_readOne 53 = .ok (.iconst 1, 1) := by decide +kernel
theorem dX5_readOne_54 : decode cX5_readOne 54 = .ok (.ireturn, 1) := by decide +kernel
theorem dX5_readOne_55 : decode cX5_readOne 55 = .ok (.aload_n 0, 1) := by decide +kernel
theorem dX5_readOne_56 : decode cX5_readOne 56 = .ok (.getfield 46, 3) := by decide +kernel
theorem dX5_readOne_59 : decode cX5_readOne 59 = .ok (.bipush 45, 2) := by decide +kernel
theorem dX5_readOne_61 : decode cX5_readOne 61 = .ok (.if_icmp .eq 12, 3) := by decide +kernel
theorem dX5_readOne_64 : decode cX5_readOne 64 = .ok (.aload_n 0, 1) := by decide +kernel
theorem dX5_readOne_65 : decode cX5_readOne 65 = .ok (.getfield 46, 3) := by decide +kernel
theorem dX5_readOne_68 : decode cX5_readOne 68 = .ok (.bipush 40, 2) := by decide +kernel
theorem dX5_readOne_70 : decode cX5_readOne 70 = .ok (.if_icmp .ne 8, 3) := by decide +kernel
theorem dX5_readOne_73 : decode cX5_readOne 73 = .ok (.iload_n 1, 1) := by decide +kernel
theorem dX5_readOne_74 : decode cX5_readOne 74 = .ok (.iconst 5, 1) := by decide +kernel
theorem dX5_readOne_75 : decode cX5_readOne 75 = .ok (.if_icmp .lt 5, 3) := by decide +kernel
theorem dX5_readOne_78 : decode cX5_readOne 78 = .ok (.iconst 0, 1) := by decide +kernel
theorem dX5_readOne_79 : decode cX5_readOne 79 = .ok (.ireturn, 1) := by decide +kernel
theorem dX5_readOne_80 : decode cX5_readOne 80 = .ok (.aload_n 0, 1) := by decide +kernel
theorem dX5_readOne_81 : decode cX5_readOne 81 = .ok (.getfield 46, 3) := by decide +kernel
theorem dX5_readOne_84 : decode cX5_readOne 84 = .ok (.bipush 45, 2) := by decide +kernel
theorem dX5_readOne_86 : decode cX5_readOne 86 = .ok (.if_icmp .ne 7, 3) := by decide +kernel
theorem dX5_readOne_89 : decode cX5_readOne 89 = .ok (.iconst 1, 1) := by decide +kernel
theorem dX5_readOne_90 : decode cX5_readOne 90 = .ok (.goto 4, 3) := by decide +kernel
theorem dX5_readOne_93 : decode cX5_readOne 93 = .ok (.iconst 0, 1) := by decide +kernel
theorem dX5_readOne_94 : decode cX5_readOne 94 = .ok (.istore_n 2, 1) := by decide +kernel
theorem dX5_readOne_95 : decode cX5_readOne 95 = .ok (.aload_n 0, 1) := by decide +kernel
theorem dX5_readOne_96 : decode cX5_readOne 96 = .ok (.invokevirtual 36, 3) := by decide +kernel
theorem dX5_readOne_99 : decode cX5_readOne 99 = .ok (.iload_n 2, 1) := by decide +kernel
theorem dX5_readOne_100 : decode cX5_readOne 100 = .ok (.ifCond .eq 28, 3) := by decide +kernel
theorem dX5_readOne_103 : decode cX5_readOne 103 = .ok (.aload_n 0, 1) := by decide +kernel
theorem dX5_readOne_104 : decode cX5_readOne 104 = .ok (.iload_n 1, 1) := by decide +kernel
theorem dX5_readOne_105 : decode cX5_readOne 105 = .ok (.iconst 1, 1) := by decide +kernel
theorem dX5_readOne_106 : decode cX5_readOne 106 = .ok (.iadd, 1) := by decide +kernel
theorem dX5_readOne_107 : decode cX5_readOne 107 = .ok (.invokevirtual 70, 3) := by decide +kernel
theorem dX5_readOne_110 : decode cX5_readOne 110 = .ok (.ifCond .eq 16, 3) := by decide +kernel
theorem dX5_readOne_113 : decode cX5_readOne 113 = .ok (.aload_n 0, 1) := by decide +kernel
theorem dX5_readOne_114 : decode cX5_readOne 114 = .ok (.bipush (-7), 2) := by decide +kernel
theorem dX5_readOne_116 : decode cX5_readOne 116 = .ok (.invokevirtual 58, 3) := by decide +kernel
theorem dX5_readOne_119 : decode cX5_readOne 119 = .ok (.ifCond .eq 7, 3) := by decide +kernel
theorem dX5_readOne_122 : decode cX5_readOne 122 = .ok (.iconst 1, 1) := by decide +kernel
theorem dX5_readOne_123 : decode cX5_readOne 123 = .ok (.goto 4, 3) := by decide +kernel
theorem dX5_readOne_126 : decode cX5_readOne 126 = .ok (.iconst 0, 1) := by decide +kernel
theorem dX5_readOne_127 : decode cX5_readOne 127 = .ok (.ireturn, 1) := by decide +kernel
theorem dX5_readOne_128 : decode cX5_readOne 128 = .ok (.aload_n 0, 1) := by decide +kernel
theorem dX5_readOne_129 : decode cX5_readOne 129 = .ok (.iload_n 1, 1) := by decide +kernel
theorem dX5_readOne_130 : decode cX5_readOne 130 = .ok (.iconst 1, 1) := by decide +kernel
theorem dX5_readOne_131 : decode cX5_readOne 131 = .ok (.iadd, 1) := by decide +kernel
theorem dX5_readOne_132 : decode cX5_readOne 132 = .ok (.invokevirtual 52, 3) := by decide +kernel
theorem dX5_readOne_135 : decode cX5_readOne 135 = .ok (.ifCond .eq 16, 3) := by decide +kernel
theorem dX5_readOne_138 : decode cX5_readOne 138 = .ok (.aload_n 0, 1) := by decide +kernel
theorem dX5_readOne_139 : decode cX5_readOne 139 = .ok (.bipush 41, 2) := by decide +kernel
theorem dX5_readOne_141 : decode cX5_readOne 141 = .ok (.invokevirtual 49, 3) := by decide +kernel
theorem dX5_readOne_144 : decode cX5_readOne 144 = .ok (.ifCond .eq 7, 3) := by decide +kernel
theorem dX5_readOne_147 : decode cX5_readOne 147 = .ok (.iconst 1, 1) := by decide +kernel
theorem dX5_readOne_148 : decode cX5_readOne 148 = .ok (.goto 4, 3) := by decide +kernel
theorem dX5_readOne_151 : decode cX5_readOne 151 = .ok (.iconst 0, 1) := by decide +kernel
theorem dX5_readOne_152 : decode cX5_readOne 152 = .ok (.ireturn, 1) := by decide +kernel
theorem dX5_pass_0 : decode cX5_pass 0 = .ok (.aload_n 0, 1) := by decide +kernel
theorem dX5_pass_1 : decode cX5_pass 1 = .ok (.getfield 46, 3) := by decide +kernel
theorem dX5_pass_4 : decode cX5_pass 4 = .ok (.iload_n 1, 1) := by decide +kernel
theorem dX5_pass_5 : decode cX5_pass 5 = .ok (.if_icmp .eq 5, 3) := by decide +kernel
theorem dX5_pass_8 : decode cX5_pass 8 = .ok (.iconst 0, 1) := by decide +kernel
theorem dX5_pass_9 : decode cX5_pass 9 = .ok (.ireturn, 1) := by decide +kernel
theorem dX5_pass_10 : decode cX5_pass 10 = .ok (.aload_n 0, 1) := by decide +kernel
theorem dX5_pass_11 : decode cX5_pass 11 = .ok (.invokevirtual 36, 3) := by decide +kernel
theorem dX5_pass_14 : decode cX5_pass 14 = .ok (.iconst 1, 1) := by decide +kernel
theorem dX5_pass_15 : decode cX5_pass 15 = .ok (.ireturn, 1) := by decide +kernel
theorem dX5_write_0 : decode cX5_write 0 = .ok (.aload_n 0, 1) := by decide +kernel
theorem dX5_write_1 : decode cX5_write 1 = .ok (.getfield 21, 3) := by decide +kernel
theorem dX5_write_4 : decode cX5_write 4 = .ok (.sipush 160, 3) := by decide +kernel
theorem dX5_write_7 : decode cX5_write 7 = .ok (.if_icmp .ne 5, 3) := by decide +kernel
theorem dX5_write_10 : decode cX5_write 10 = .ok (.iconst 0, 1) := by decide +kernel
theorem dX5_write_11 : decode cX5_write 11 = .ok (.ireturn, 1) := by decide +kernel
theorem dX5_write_12 : decode cX5_write 12 = .ok (.aload_n 0, 1) := by decide +kernel
theorem dX5_write_13 : decode cX5_write 13 = .ok (.getfield 13, 3) := by decide +kernel
theorem dX5_write_16 : decode cX5_write 16 = .ok (.aload_n 0, 1) := by decide +kernel
theorem dX5_write_17 : decode cX5_write 17 = .ok (.getfield 21, 3) := by decide +kernel
theorem dX5_write_20 : decode cX5_write 20 = .ok (.iload_n 1, 1) := by decide +kernel
theorem dX5_write_21 : decode cX5_write 21 = .ok (.iastore, 1) := by decide +kernel
theorem dX5_write_22 : decode cX5_write 22 = .ok (.aload_n 0, 1) := by decide +kernel
theorem dX5_write_23 : decode cX5_write 23 = .ok (.dup, 1) := by decide +kernel
theorem dX5_write_24 : decode cX5_write 24 = .ok (.getfield 21, 3) := by decide +kernel
theorem dX5_write_27 : decode cX5_write 27 = .ok (.iconst 1, 1) := by decide +kernel
theorem dX5_write_28 : decode cX5_write 28 = .ok (.iadd, 1) := by decide +kernel
theorem dX5_write_29 : decode cX5_write 29 = .ok (.putfield 21, 3) := by decide +kernel
theorem dX5_write_32 : decode cX5_write 32 = .ok (.iconst 1, 1) := by decide +kernel
theorem dX5_write_33 : decode cX5_write 33 = .ok (.ireturn, 1) := by decide +kernel
theorem dX5_advance_0 : decode cX5_advance 0 = .ok (.aload_n 0, 1) := by decide +kernel
theorem dX5_advance_1 : decode cX5_advance 1 = .ok (.aload_n 0, 1) := by decide +kernel
theorem dX5_advance_2 : decode cX5_advance 2 = .ok (.getfield 33, 3) := by decide +kernel
theorem dX5_advance_5 : decode cX5_advance 5 = .ok (.putfield 43, 3) := by decide +kernel
theorem dX5_advance_8 : decode cX5_advance 8 = .ok (.aload_n 0, 1) := by decide +kernel
theorem dX5_advance_9 : decode cX5_advance 9 = .ok (.getfield 43, 3) := by decide +kernel
theorem dX5_advance_12 : decode cX5_advance 12 = .ok (.aload_n 0, 1) := by decide +kernel
theorem dX5_advance_13 : decode cX5_advance 13 = .ok (.getfield 17, 3) := by decide +kernel
theorem dX5_advance_16 : decode cX5_advance 16 = .ok (.if_icmp .ge 44, 3) := by decide +kernel
theorem dX5_advance_19 : decode cX5_advance 19 = .ok (.aload_n 0, 1) := by decide +kernel
theorem dX5_advance_20 : decode cX5_advance 20 = .ok (.getfield 9, 3) := by decide +kernel
theorem dX5_advance_23 : decode cX5_advance 23 = .ok (.aload_n 0, 1) := by decide +kernel
theorem dX5_advance_24 : decode cX5_advance 24 = .ok (.getfield 43, 3) := by decide +kernel
theorem dX5_advance_27 : decode cX5_advance 27 = .ok (.baload, 1) := by decide +kernel
theorem dX5_advance_28 : decode cX5_advance 28 = .ok (.bipush 32, 2) := by decide +kernel
theorem dX5_advance_30 : decode cX5_advance 30 = .ok (.if_icmp .eq 17, 3) := by decide +kernel
theorem dX5_advance_33 : decode cX5_advance 33 = .ok (.aload_n 0, 1) := by decide +kernel
theorem dX5_advance_34 : decode cX5_advance 34 = .ok (.getfield 9, 3) := by decide +kernel
theorem dX5_advance_37 : decode cX5_advance 37 = .ok (.aload_n 0, 1) := by decide +kernel
theorem dX5_advance_38 : decode cX5_advance 38 = .ok (.getfield 43, 3) := by decide +kernel
theorem dX5_advance_41 : decode cX5_advance 41 = .ok (.baload, 1) := by decide +kernel
theorem dX5_advance_42 : decode cX5_advance 42 = .ok (.bipush 10, 2) := by decide +kernel
theorem dX5_advance_44 : decode cX5_advance 44 = .ok (.if_icmp .ne 16, 3) := by decide +kernel
theorem dX5_advance_47 : decode cX5_advance 47 = .ok (.aload_n 0, 1) := by decide +kernel
theorem dX5_advance_48 : decode cX5_advance 48 = .ok (.dup, 1) := by decide +kernel
theorem dX5_advance_49 : decode cX5_advance 49 = .ok (.getfield 43, 3) := by decide +kernel
theorem dX5_advance_52 : decode cX5_advance 52 = .ok (.iconst 1, 1) := by decide +kernel
theorem dX5_advance_53 : decode cX5_advance 53 = .ok (.iadd, 1) := by decide +kernel
theorem dX5_advance_54 : decode cX5_advance 54 = .ok (.putfield 43, 3) := by decide +kernel
theorem dX5_advance_57 : decode cX5_advance 57 = .ok (.goto (-49), 3) := by decide +kernel
theorem dX5_advance_60 : decode cX5_advance 60 = .ok (.aload_n 0, 1) := by decide +kernel
theorem dX5_advance_61 : decode cX5_advance 61 = .ok (.aload_n 0, 1) := by decide +kernel
theorem dX5_advance_62 : decode cX5_advance 62 = .ok (.getfield 43, 3) := by decide +kernel
theorem dX5_advance_65 : decode cX5_advance 65 = .ok (.putfield 33, 3) := by decide +kernel
theorem dX5_advance_68 : decode cX5_advance 68 = .ok (.aload_n 0, 1) := by decide +kernel
theorem dX5_advance_69 : decode cX5_advance 69 = .ok (.getfield 43, 3) := by decide +kernel
theorem dX5_advance_72 : decode cX5_advance 72 = .ok (.aload_n 0, 1) := by decide +kernel
theorem dX5_advance_73 : decode cX5_advance 73 = .ok (.getfield 17, 3) := by decide +kernel
theorem dX5_advance_76 : decode cX5_advance 76 = .ok (.if_icmp .ne 11, 3) := by decide +kernel
theorem dX5_advance_79 : decode cX5_advance 79 = .ok (.aload_n 0, 1) := by decide +kernel
theorem dX5_advance_80 : decode cX5_advance 80 = .ok (.iconst 0, 1) := by decide +kernel
theorem dX5_advance_81 : decode cX5_advance 81 = .ok (.putfield 46, 3) := by decide +kernel
theorem dX5_advance_84 : decode cX5_advance 84 = .ok (.goto 63, 3) := by decide +kernel
theorem dX5_advance_87 : decode cX5_advance 87 = .ok (.aload_n 0, 1) := by decide +kernel
theorem dX5_advance_88 : decode cX5_advance 88 = .ok (.getfield 9, 3) := by decide +kernel
theorem dX5_advance_91 : decode cX5_advance 91 = .ok (.aload_n 0, 1) := by decide +kernel
theorem dX5_advance_92 : decode cX5_advance 92 = .ok (.getfield 43, 3) := by decide +kernel
theorem dX5_advance_95 : decode cX5_advance 95 = .ok (.baload, 1) := by decide +kernel
theorem dX5_advance_96 : decode cX5_advance 96 = .ok (.invokestatic 76, 3) := by decide +kernel
theorem dX5_advance_99 : decode cX5_advance 99 = .ok (.ifCond .eq 14, 3) := by decide +kernel
theorem dX5_advance_102 : decode cX5_advance 102 = .ok (.aload_n 0, 1) := by decide +kernel
theorem dX5_advance_103 : decode cX5_advance 103 = .ok (.aload_n 0, 1) := by decide +kernel
theorem dX5_advance_104 : decode cX5_advance 104 = .ok (.invokevirtual 79, 3) := by decide +kernel
theorem dX5_advance_107 : decode cX5_advance 107 = .ok (.putfield 46, 3) := by decide +kernel
theorem dX5_advance_110 : decode cX5_advance 110 = .ok (.goto 37, 3) := by decide +kernel
theorem dX5_advance_113 : decode cX5_advance 113 = .ok (.aload_n 0, 1) := by decide +kernel
theorem dX5_advance_114 : decode cX5_advance 114 = .ok (.getfield 9, 3) := by decide +kernel
theorem dX5_advance_117 : decode cX5_advance 117 = .ok (.aload_n 0, 1) := by decide +kernel
theorem dX5_advance_118 : decode cX5_advance 118 = .ok (.getfield 43, 3) := by decide +kernel
theorem dX5_advance_121 : decode cX5_advance 121 = .ok (.baload, 1) := by decide +kernel
theorem dX5_advance_122 : decode cX5_advance 122 = .ok (.invokestatic 83, 3) := by decide +kernel
theorem dX5_advance_125 : decode cX5_advance 125 = .ok (.ifCond .eq 14, 3) := by decide +kernel
theorem dX5_advance_128 : decode cX5_advance 128 = .ok (.aload_n 0, 1) := by decide +kernel
theorem dX5_advance_129 : decode cX5_advance 129 = .ok (.aload_n 0, 1) := by decide +kernel
theorem dX5_advance_130 : decode cX5_advance 130 = .ok (.invokevirtual 86, 3) := by decide +kernel
theorem dX5_advance_133 : decode cX5_advance 133 = .ok (.putfield 46, 3) := by decide +kernel
theorem dX5_advance_136 : decode cX5_advance 136 = .ok (.goto 11, 3) := by decide +kernel
theorem dX5_advance_139 : decode cX5_advance 139 = .ok (.aload_n 0, 1) := by decide +kernel
theorem dX5_advance_140 : decode cX5_advance 140 = .ok (.aload_n 0, 1) := by decide +kernel
theorem dX5_advance_141 : decode cX5_advance 141 = .ok (.invokevirtual 89, 3) := by decide +kernel
theorem dX5_advance_144 : decode cX5_advance 144 = .ok (.putfield 46, 3) := by decide +kernel
theorem dX5_advance_147 : decode cX5_advance 147 = .ok (.return_, 1) := by decide +kernel
theorem dX5_readWord_0 : decode cX5_readWord 0 = .ok (.aload_n 0, 1) := by decide +kernel
theorem dX5_readWord_1 : decode cX5_readWord 1 = .ok (.getfield 33, 3) := by decide +kernel
theorem dX5_readWord_4 : decode cX5_readWord 4 = .ok (.aload_n 0, 1) := by decide +kernel
theorem dX5_readWord_5 : decode cX5_readWord 5 = .ok (.getfield 17, 3) := by decide +kernel
theorem dX5_readWord_8 : decode cX5_readWord 8 = .ok (.if_icmp .ge 31, 3) := by decide +kernel
theorem dX5_readWord_11 : decode cX5_readWord 11 = .ok (.aload_n 0, 1) := by decide +kernel
theorem dX5_readWord_12 : decode cX5_readWord 12 = .ok (.getfield 9, 3) := by decide +kernel
theorem dX5_readWord_15 : decode cX5_readWord 15 = .ok (.aload_n 0, 1) := by decide +kernel
theorem dX5_readWord_16 : decode cX5_readWord 16 = .ok (.getfield 33, 3) := by decide +kernel
theorem dX5_readWord_19 : decode cX5_readWord 19 = .ok (.baload, 1) := by decide +kernel
theorem dX5_readWord_20 : decode cX5_readWord 20 = .ok (.invokestatic 76, 3) := by decide +kernel
theorem dX5_readWord_23 : decode cX5_readWord 23 = .ok (.ifCond .eq 16, 3) := by decide +kernel
theorem dX5_readWord_26 : decode cX5_readWord 26 = .ok (.aload_n 0, 1) := by decide +kernel
theorem dX5_readWord_27 : decode cX5_readWord 27 = .ok (.dup, 1) := by decide +kernel
theorem dX5_readWord_28 : decode cX5_readWord 28 = .ok (.getfield 33, 3) := by decide +kernel
theorem dX5_readWord_31 : decode cX5_readWord 31 = .ok (.iconst 1, 1) := by decide +kernel
theorem dX5_readWord_32 : decode cX5_readWord 32 = .ok (.iadd, 1) := by decide +kernel
theorem dX5_readWord_33 : decode cX5_readWord 33 = .ok (.putfield 33, 3) := by decide +kernel
theorem dX5_readWord_36 : decode cX5_readWord 36 = .ok (.goto (-36), 3) := by decide +kernel
theorem dX5_readWord_39 : decode cX5_readWord 39 = .ok (.aload_n 0, 1) := by decide +kernel
theorem dX5_readWord_40 : decode cX5_readWord 40 = .ok (.ldc 92, 2) := by decide +kernel
theorem dX5_readWord_42 : decode cX5_readWord 42 = .ok (.invokevirtual 94, 3) := by decide +kernel
theorem dX5_readWord_45 : decode cX5_readWord 45 = .ok (.ifCond .eq 5, 3) := by decide +kernel
theorem dX5_readWord_48 : decode cX5_readWord 48 = .ok (.iconst 3, 1) := by decide +kernel
theorem dX5_readWord_49 : decode cX5_readWord 49 = .ok (.ireturn, 1) := by decide +kernel
theorem dX5_readWord_50 : decode cX5_readWord 50 = .ok (.aload_n 0, 1) := by decide +kernel
theorem dX5_readWord_51 : decode cX5_readWord 51 = .ok (.ldc 98, 2) := by decide +kernel
theorem dX5_readWord_53 : decode cX5_readWord 53 = .ok (.invokevirtual 94, 3) := by decide +kernel
theorem dX5_readWord_56 : decode cX5_readWord 56 = .ok (.ifCond .eq 5, 3) := by decide +kernel
theorem dX5_readWord_59 : decode cX5_readWord 59 = .ok (.iconst 4, 1) := by decide +kernel
theorem dX5_readWord_60 : decode cX5_readWord 60 = .ok (.ireturn, 1) := by decide +kernel
theorem dX5_readWord_61 : decode cX5_readWord 61 = .ok (.aload_n 0, 1) := by decide +kernel
theorem dX5_readWord_62 : decode cX5_readWord 62 = .ok (.ldc 100, 2) := by decide +kernel
theorem dX5_readWord_64 : decode cX5_readWord 64 = .ok (.invokevirtual 94, 3) := by decide +kernel
theorem dX5_readWord_67 : decode cX5_readWord 67 = .ok (.ifCond .eq 6, 3) := by decide +kernel
theorem dX5_readWord_70 : decode cX5_readWord 70 = .ok (.bipush (-9), 2) := by decide +kernel
theorem dX5_readWord_72 : decode cX5_readWord 72 = .ok (.ireturn, 1) := by decide +kernel
theorem dX5_readWord_73 : decode cX5_readWord 73 = .ok (.aload_n 0, 1) := by decide +kernel
theorem dX5_readWord_74 : decode cX5_readWord 74 = .ok (.ldc 102, 2) := by decide +kernel
theorem dX5_readWord_76 : decode cX5_readWord 76 = .ok (.invokevirtual 94, 3) := by decide +kernel
theorem dX5_readWord_79 : decode cX5_readWord 79 = .ok (.ifCond .eq 6, 3) := by decide +kernel
theorem dX5_readWord_82 : decode cX5_readWord 82 = .ok (.bipush (-10), 2) := by decide +kernel
theorem dX5_readWord_84 : decode cX5_readWord 84 = .ok (.ireturn, 1) := by decide +kernel
theorem dX5_readWord_85 : decode cX5_readWord 85 = .ok (.aload_n 0, 1) := by decide +kernel
theorem dX5_readWord_86 : decode cX5_readWord 86 = .ok (.ldc 104, 2) := by decide +kernel
theorem dX5_readWord_88 : decode cX5_readWord 88 = .ok (.invokevirtual 94, 3) := by decide +kernel
theorem dX5_readWord_91 : decode cX5_readWord 91 = .ok (.ifCond .eq 6, 3) := by decide +kernel
theorem dX5_readWord_94 : decode cX5_readWord 94 = .ok (.bipush (-8), 2) := by decide +kernel
theorem dX5_readWord_96 : decode cX5_readWord 96 = .ok (.ireturn, 1) := by decide +kernel
theorem dX5_readWord_97 : decode cX5_readWord 97 = .ok (.aload_n 0, 1) := by decide +kernel
theorem dX5_readWord_98 : decode cX5_readWord 98 = .ok (.ldc 106, 2) := by decide +kernel
theorem dX5_readWord_100 : decode cX5_readWord 100 = .ok (.invokevirtual 94, 3) := by decide +kernel
theorem dX5_readWord_103 : decode cX5_readWord 103 = .ok (.ifCond .eq 5, 3) := by decide +kernel
theorem dX5_readWord_106 : decode cX5_readWord 106 = .ok (.iconst (-1), 1) := by decide +kernel
theorem dX5_readWord_107 : decode cX5_readWord 107 = .ok (.ireturn, 1) := by decide +kernel
theorem dX5_readWord_108 : decode cX5_readWord 108 = .ok (.aload_n 0, 1) := by decide +kernel
theorem dX5_readWord_109 : decode cX5_readWord 109 = .ok (.ldc 108, 2) := by decide +kernel
theorem dX5_readWord_111 : decode cX5_readWord 111 = .ok (.invokevirtual 94, 3) := by decide +kernel
theorem dX5_readWord_114 : decode cX5_readWord 114 = .ok (.ifCond .eq 6, 3) := by decide +kernel
theorem dX5_readWord_117 : decode cX5_readWord 117 = .ok (.bipush (-2), 2) := by decide +kernel
theorem dX5_readWord_119 : decode cX5_readWord 119 = .ok (.ireturn, 1) := by decide +kernel
theorem dX5_readWord_120 : decode cX5_readWord 120 = .ok (.aload_n 0, 1) := by decide +kernel
theorem dX5_readWord_121 : decode cX5_readWord 121 = .ok (.ldc 110, 2) := by decide +kernel
theorem dX5_readWord_123 : decode cX5_readWord 123 = .ok (.invokevirtual 94, 3) := by decide +kernel
theorem dX5_readWord_126 : decode cX5_readWord 126 = .ok (.ifCond .eq 6, 3) := by decide +kernel
theorem dX5_readWord_129 : decode cX5_readWord 129 = .ok (.bipush (-3), 2) := by decide +kernel
theorem dX5_readWord_131 : decode cX5_readWord 131 = .ok (.ireturn, 1) := by decide +kernel
theorem dX5_readWord_132 : decode cX5_readWord 132 = .ok (.aload_n 0, 1) := by decide +kernel
theorem dX5_readWord_133 : decode cX5_readWord 133 = .ok (.ldc 112, 2) := by decide +kernel
theorem dX5_readWord_135 : decode cX5_readWord 135 = .ok (.invokevirtual 94, 3) := by decide +kernel
theorem dX5_readWord_138 : decode cX5_readWord 138 = .ok (.ifCond .eq 6, 3) := by decide +kernel
theorem dX5_readWord_141 : decode cX5_readWord 141 = .ok (.bipush (-4), 2) := by decide +kernel
theorem dX5_readWord_143 : decode cX5_readWord 143 = .ok (.ireturn, 1) := by decide +kernel
theorem dX5_readWord_144 : decode cX5_readWord 144 = .ok (.aload_n 0, 1) := by decide +kernel
theorem dX5_readWord_145 : decode cX5_readWord 145 = .ok (.ldc 114, 2) := by decide +kernel
theorem dX5_readWord_147 : decode cX5_readWord 147 = .ok (.invokevirtual 94, 3) := by decide +kernel
theorem dX5_readWord_150 : decode cX5_readWord 150 = .ok (.ifCond .eq 6, 3) := by decide +kernel
theorem dX5_readWord_153 : decode cX5_readWord 153 = .ok (.bipush (-5), 2) := by decide +kernel
theorem dX5_readWord_155 : decode cX5_readWord 155 = .ok (.ireturn, 1) := by decide +kernel
theorem dX5_readWord_156 : decode cX5_readWord 156 = .ok (.aload_n 0, 1) := by decide +kernel
theorem dX5_readWord_157 : decode cX5_readWord 157 = .ok (.ldc 116, 2) := by decide +kernel
theorem dX5_readWord_159 : decode cX5_readWord 159 = .ok (.invokevirtual 94, 3) := by decide +kernel
theorem dX5_readWord_162 : decode cX5_readWord 162 = .ok (.ifCond .eq 6, 3) := by decide +kernel
theorem dX5_readWord_165 : decode cX5_readWord 165 = .ok (.bipush (-6), 2) := by decide +kernel
theorem dX5_readWord_167 : decode cX5_readWord 167 = .ok (.ireturn, 1) := by decide +kernel
theorem dX5_readWord_168 : decode cX5_readWord 168 = .ok (.iconst 1, 1) := by decide +kernel
theorem dX5_readWord_169 : decode cX5_readWord 169 = .ok (.ireturn, 1) := by decide +kernel
theorem dX5_spells_0 : decode cX5_spells 0 = .ok (.aload_n 0, 1) := by decide +kernel
theorem dX5_spells_1 : decode cX5_spells 1 = .ok (.getfield 33, 3) := by decide +kernel
theorem dX5_spells_4 : decode cX5_spells 4 = .ok (.aload_n 0, 1) := by decide +kernel
theorem dX5_spells_5 : decode cX5_spells 5 = .ok (.getfield 43, 3) := by decide +kernel
theorem dX5_spells_8 : decode cX5_spells 8 = .ok (.isub, 1) := by decide +kernel
theorem dX5_spells_9 : decode cX5_spells 9 = .ok (.aload_n 1, 1) := by decide +kernel
theorem dX5_spells_10 : decode cX5_spells 10 = .ok (.invokevirtual 118, 3) := by decide +kernel
theorem dX5_spells_13 : decode cX5_spells 13 = .ok (.if_icmp .eq 5, 3) := by decide +kernel
theorem dX5_spells_16 : decode cX5_spells 16 = .ok (.iconst 0, 1) := by decide +kernel
theorem dX5_spells_17 : decode cX5_spells 17 = .ok (.ireturn, 1) := by decide +kernel
theorem dX5_spells_18 : decode cX5_spells 18 = .ok (.iconst 0, 1) := by decide +kernel
theorem dX5_spells_19 : decode cX5_spells 19 = .ok (.istore_n 2, 1) := by decide +kernel
theorem dX5_spells_20 : decode cX5_spells 20 = .ok (.iload_n 2, 1) := by decide +kernel
theorem dX5_spells_21 : decode cX5_spells 21 = .ok (.aload_n 1, 1) := by decide +kernel
theorem dX5_spells_22 : decode cX5_spells 22 = .ok (.invokevirtual 118, 3) := by decide +kernel
theorem dX5_spells_25 : decode cX5_spells 25 = .ok (.if_icmp .ge 30, 3) := by decide +kernel
theorem dX5_spells_28 : decode cX5_spells 28 = .ok (.aload_n 0, 1) := by decide +kernel
theorem dX5_spells_29 : decode cX5_spells 29 = .ok (.getfield 9, 3) := by decide +kernel
theorem dX5_spells_32 : decode cX5_spells 32 = .ok (.aload_n 0, 1) := by decide +kernel
theorem dX5_spells_33 : decode cX5_spells 33 = .ok (.getfield 43, 3) := by decide +kernel
theorem dX5_spells_36 : decode cX5_spells 36 = .ok (.iload_n 2, 1) := by decide +kernel
theorem dX5_spells_37 : decode cX5_spells 37 = .ok (.iadd, 1) := by decide +kernel
theorem dX5_spells_38 : decode cX5_spells 38 = .ok (.baload, 1) := by decide +kernel
theorem dX5_spells_39 : decode cX5_spells 39 = .ok (.aload_n 1, 1) := by decide +kernel
theorem dX5_spells_40 : decode cX5_spells 40 = .ok (.iload_n 2, 1) := by decide +kernel
theorem dX5_spells_41 : decode cX5_spells 41 = .ok (.invokevirtual 122, 3) := by decide +kernel
theorem dX5_spells_44 : decode cX5_spells 44 = .ok (.if_icmp .eq 5, 3) := by decide +kernel
theorem dX5_spells_47 : decode cX5_spells 47 = .ok (.iconst 0, 1) := by decide +kernel
theorem dX5_spells_48 : decode cX5_spells 48 = .ok (.ireturn, 1) := by decide +kernel
theorem dX5_spells_49 : decode cX5_spells 49 = .ok (.iinc 2 1, 3) := by decide +kernel
theorem dX5_spells_52 : decode cX5_spells 52 = .ok (.goto (-32), 3) := by decide +kernel
theorem dX5_spells_55 : decode cX5_spells 55 = .ok (.iconst 1, 1) := by decide +kernel
theorem dX5_spells_56 : decode cX5_spells 56 = .ok (.ireturn, 1) := by decide +kernel
theorem dX5_readNumber_0 : decode cX5_readNumber 0 = .ok (.aload_n 0, 1) := by decide +kernel
theorem dX5_readNumber_1 : decode cX5_readNumber 1 = .ok (.iconst 0, 1) := by decide +kernel
theorem dX5_readNumber_2 : decode cX5_readNumber 2 = .ok (.putfield 73, 3) := by decide +kernel
theorem dX5_readNumber_5 : decode cX5_readNumber 5 = .ok (.aload_n 0, 1) := by decide +kernel
theorem dX5_readNumber_6 : decode cX5_readNumber 6 = .ok (.getfield 33, 3) := by decide +kernel
theorem dX5_readNumber_9 : decode cX5_readNumber 9 = .ok (.aload_n 0, 1) := by decide +kernel
theorem dX5_readNumber_10 : decode cX5_readNumber 10 = .ok (.getfield 17, 3) := by decide +kernel
theorem dX5_readNumber_13 : decode cX5_readNumber 13 = .ok (.if_icmp .ge 55, 3) := by decide +kernel
theorem dX5_readNumber_16 : decode cX5_readNumber 16 = .ok (.aload_n 0, 1) := by decide +kernel
theorem dX5_readNumber_17 : decode cX5_readNumber 17 = .ok (.getfield 9, 3) := by decide +kernel
theorem dX5_readNumber_20 : decode cX5_readNumber 20 = .ok (.aload_n 0, 1) := by decide +kernel
theorem dX5_readNumber_21 : decode cX5_readNumber 21 = .ok (.getfield 33, 3) := by decide +kernel
theorem dX5_readNumber_24 : decode cX5_readNumber 24 = .ok (.baload, 1) := by decide +kernel
theorem dX5_readNumber_25 : decode cX5_readNumber 25 = .ok (.invokestatic 83, 3) := by decide +kernel
theorem dX5_readNumber_28 : decode cX5_readNumber 28 = .ok (.ifCond .eq 40, 3) := by decide +kernel
theorem dX5_readNumber_31 : decode cX5_readNumber 31 = .ok (.aload_n 0, 1) := by decide +kernel
theorem dX5_readNumber_32 : decode cX5_readNumber 32 = .ok (.aload_n 0, 1) := by decide +kernel
theorem dX5_readNumber_33 : decode cX5_readNumber 33 = .ok (.getfield 73, 3) := by decide +kernel
theorem dX5_readNumber_36 : decode cX5_readNumber 36 = .ok (.bipush 10, 2) := by decide +kernel
theorem dX5_readNumber_38 : decode cX5_readNumber 38 = .ok (.imul, 1) := by decide +kernel
theorem dX5_readNumber_39 : decode cX5_readNumber 39 = .ok (.aload_n 0, 1) := by decide +kernel
theorem dX5_readNumber_40 : decode cX5_readNumber 40 = .ok (.getfield 9, 3) := by decide +kernel
theorem dX5_readNumber_43 : decode cX5_readNumber 43 = .ok (.aload_n 0, 1) := by decide +kernel
theorem dX5_readNumber_44 : decode cX5_readNumber 44 = .ok (.getfield 33, 3) := by decide +kernel
theorem dX5_readNumber_47 : decode cX5_readNumber 47 = .ok (.baload, 1) := by decide +kernel
end
section
theorem dX5_readNumber_48 : decode cX5_readNumber 48 = .ok (.iadd, 1) := by decide +kernel
theorem dX5_readNumber_49 : decode cX5_readNumber 49 = .ok (.bipush 48, 2) := by decide +kernel
theorem dX5_readNumber_51 : decode cX5_readNumber 51 = .ok (.isub, 1) := by decide +kernel
theorem dX5_readNumber_52 : decode cX5_readNumber 52 = .ok (.putfield 73, 3) := by decide +kernel
theorem dX5_readNumber_55 : decode cX5_readNumber 55 = .ok (.aload_n 0, 1) := by decide +kernel
theorem dX5_readNumber_56 : decode cX5_readNumber 56 = .ok (.dup, 1) := by decide +kernel
theorem dX5_readNumber_57 : decode cX5_readNumber 57 = .ok (.getfield 33, 3) := by decide +kernel
theorem dX5_readNumber_60 : decode cX5_readNumber 60 = .ok (.iconst 1, 1) := by decide +kernel
theorem dX5_readNumber_61 : decode cX5_readNumber 61 = .ok (.iadd, 1) := by decide +kernel
theorem dX5_readNumber_62 : decode cX5_readNumber 62 = .ok (.putfield 33, 3) := by decide +kernel
theorem dX5_readNumber_65 : decode cX5_readNumber 65 = .ok (.goto (-60), 3) := by decide +kernel
theorem dX5_readNumber_68 : decode cX5_readNumber 68 = .ok (.aload_n 0, 1) := by decide +kernel
theorem dX5_readNumber_69 : decode cX5_readNumber 69 = .ok (.getfield 33, 3) := by decide +kernel
theorem dX5_readNumber_72 : decode cX5_readNumber 72 = .ok (.aload_n 0, 1) := by decide +kernel
theorem dX5_readNumber_73 : decode cX5_readNumber 73 = .ok (.getfield 43, 3) := by decide +kernel
theorem dX5_readNumber_76 : decode cX5_readNumber 76 = .ok (.isub, 1) := by decide +kernel
theorem dX5_readNumber_77 : decode cX5_readNumber 77 = .ok (.iconst 4, 1) := by decide +kernel
theorem dX5_readNumber_78 : decode cX5_readNumber 78 = .ok (.if_icmp .le 7, 3) := by decide +kernel
theorem dX5_readNumber_81 : decode cX5_readNumber 81 = .ok (.iconst 1, 1) := by decide +kernel
theorem dX5_readNumber_82 : decode cX5_readNumber 82 = .ok (.goto 4, 3) := by decide +kernel
theorem dX5_readNumber_85 : decode cX5_readNumber 85 = .ok (.iconst 2, 1) := by decide +kernel
theorem dX5_readNumber_86 : decode cX5_readNumber 86 = .ok (.ireturn, 1) := by decide +kernel
theorem dX5_readSign_0 : decode cX5_readSign 0 = .ok (.aload_n 0, 1) := by decide +kernel
theorem dX5_readSign_1 : decode cX5_readSign 1 = .ok (.getfield 9, 3) := by decide +kernel
theorem dX5_readSign_4 : decode cX5_readSign 4 = .ok (.aload_n 0, 1) := by decide +kernel
theorem dX5_readSign_5 : decode cX5_readSign 5 = .ok (.getfield 43, 3) := by decide +kernel
theorem dX5_readSign_8 : decode cX5_readSign 8 = .ok (.baload, 1) := by decide +kernel
theorem dX5_readSign_9 : decode cX5_readSign 9 = .ok (.istore_n 1, 1) := by decide +kernel
theorem dX5_readSign_10 : decode cX5_readSign 10 = .ok (.aload_n 0, 1) := by decide +kernel
theorem dX5_readSign_11 : decode cX5_readSign 11 = .ok (.aload_n 0, 1) := by decide +kernel
theorem dX5_readSign_12 : decode cX5_readSign 12 = .ok (.getfield 43, 3) := by decide +kernel
theorem dX5_readSign_15 : decode cX5_readSign 15 = .ok (.iconst 1, 1) := by decide +kernel
theorem dX5_readSign_16 : decode cX5_readSign 16 = .ok (.iadd, 1) := by decide +kernel
theorem dX5_readSign_17 : decode cX5_readSign 17 = .ok (.putfield 33, 3) := by decide +kernel
theorem dX5_readSign_20 : decode cX5_readSign 20 = .ok (.iload_n 1, 1) := by decide +kernel
theorem dX5_readSign_21 : decode cX5_readSign 21 = .ok (.tableswitch 105 40 61 #[103, 103, 103, 103, 105, 103, 105, 105, 105, 105, 105, 105, 105, 105, 105, 105, 105, 105, 105, 103, 103, 103], 103) := by decide +kernel
theorem dX5_readSign_124 : decode cX5_readSign 124 = .ok (.iload_n 1, 1) := by decide +kernel
theorem dX5_readSign_125 : decode cX5_readSign 125 = .ok (.ireturn, 1) := by decide +kernel
theorem dX5_readSign_126 : decode cX5_readSign 126 = .ok (.iconst 1, 1) := by decide +kernel
theorem dX5_readSign_127 : decode cX5_readSign 127 = .ok (.ireturn, 1) := by decide +kernel
theorem dX5_isLetter_0 : decode cX5_isLetter 0 = .ok (.iload_n 0, 1) := by decide +kernel
theorem dX5_isLetter_1 : decode cX5_isLetter 1 = .ok (.bipush 97, 2) := by decide +kernel
theorem dX5_isLetter_3 : decode cX5_isLetter 3 = .ok (.if_icmp .lt 13, 3) := by decide +kernel
theorem dX5_isLetter_6 : decode cX5_isLetter 6 = .ok (.iload_n 0, 1) := by decide +kernel
theorem dX5_isLetter_7 : decode cX5_isLetter 7 = .ok (.bipush 122, 2) := by decide +kernel
theorem dX5_isLetter_9 : decode cX5_isLetter 9 = .ok (.if_icmp .gt 7, 3) := by decide +kernel
theorem dX5_isLetter_12 : decode cX5_isLetter 12 = .ok (.iconst 1, 1) := by decide +kernel
theorem dX5_isLetter_13 : decode cX5_isLetter 13 = .ok (.goto 4, 3) := by decide +kernel
theorem dX5_isLetter_16 : decode cX5_isLetter 16 = .ok (.iconst 0, 1) := by decide +kernel
theorem dX5_isLetter_17 : decode cX5_isLetter 17 = .ok (.ireturn, 1) := by decide +kernel
theorem dX5_isFigure_0 : decode cX5_isFigure 0 = .ok (.iload_n 0, 1) := by decide +kernel
theorem dX5_isFigure_1 : decode cX5_isFigure 1 = .ok (.bipush 48, 2) := by decide +kernel
theorem dX5_isFigure_3 : decode cX5_isFigure 3 = .ok (.if_icmp .lt 13, 3) := by decide +kernel
theorem dX5_isFigure_6 : decode cX5_isFigure 6 = .ok (.iload_n 0, 1) := by decide +kernel
theorem dX5_isFigure_7 : decode cX5_isFigure 7 = .ok (.bipush 57, 2) := by decide +kernel
theorem dX5_isFigure_9 : decode cX5_isFigure 9 = .ok (.if_icmp .gt 7, 3) := by decide +kernel
theorem dX5_isFigure_12 : decode cX5_isFigure 12 = .ok (.iconst 1, 1) := by decide +kernel
theorem dX5_isFigure_13 : decode cX5_isFigure 13 = .ok (.goto 4, 3) := by decide +kernel
theorem dX5_isFigure_16 : decode cX5_isFigure 16 = .ok (.iconst 0, 1) := by decide +kernel
theorem dX5_isFigure_17 : decode cX5_isFigure 17 = .ok (.ireturn, 1) := by decide +kernel
theorem dX6_init_0 : decode cX6_init 0 = .ok (.aload_n 0, 1) := by decide +kernel
theorem dX6_init_1 : decode cX6_init 1 = .ok (.invokespecial 1, 3) := by decide +kernel
theorem dX6_init_4 : decode cX6_init 4 = .ok (.aload_n 0, 1) := by decide +kernel
theorem dX6_init_5 : decode cX6_init 5 = .ok (.iconst 3, 1) := by decide +kernel
theorem dX6_init_6 : decode cX6_init 6 = .ok (.putfield 7, 3) := by decide +kernel
theorem dX6_init_9 : decode cX6_init 9 = .ok (.aload_n 0, 1) := by decide +kernel
theorem dX6_init_10 : decode cX6_init 10 = .ok (.bipush 10, 2) := by decide +kernel
theorem dX6_init_12 : decode cX6_init 12 = .ok (.newarray .int, 2) := by decide +kernel
theorem dX6_init_14 : decode cX6_init 14 = .ok (.putfield 13, 3) := by decide +kernel
theorem dX6_init_17 : decode cX6_init 17 = .ok (.aload_n 0, 1) := by decide +kernel
theorem dX6_init_18 : decode cX6_init 18 = .ok (.bipush 10, 2) := by decide +kernel
theorem dX6_init_20 : decode cX6_init 20 = .ok (.newarray .int, 2) := by decide +kernel
theorem dX6_init_22 : decode cX6_init 22 = .ok (.putfield 17, 3) := by decide +kernel
theorem dX6_init_25 : decode cX6_init 25 = .ok (.return_, 1) := by decide +kernel
theorem dX6_isMarks_0 : decode cX6_isMarks 0 = .ok (.iload_n 0, 1) := by decide +kernel
theorem dX6_isMarks_1 : decode cX6_isMarks 1 = .ok (.ifCond .lt 14, 3) := by decide +kernel
theorem dX6_isMarks_4 : decode cX6_isMarks 4 = .ok (.iload_n 0, 1) := by decide +kernel
theorem dX6_isMarks_5 : decode cX6_isMarks 5 = .ok (.sipush 1024, 3) := by decide +kernel
theorem dX6_isMarks_8 : decode cX6_isMarks 8 = .ok (.if_icmp .ge 7, 3) := by decide +kernel
theorem dX6_isMarks_11 : decode cX6_isMarks 11 = .ok (.iconst 1, 1) := by decide +kernel
theorem dX6_isMarks_12 : decode cX6_isMarks 12 = .ok (.goto 4, 3) := by decide +kernel
theorem dX6_isMarks_15 : decode cX6_isMarks 15 = .ok (.iconst 0, 1) := by decide +kernel
theorem dX6_isMarks_16 : decode cX6_isMarks 16 = .ok (.ireturn, 1) := by decide +kernel
theorem dX6_has_0 : decode cX6_has 0 = .ok (.iload_n 1, 1) := by decide +kernel
theorem dX6_has_1 : decode cX6_has 1 = .ok (.ifCond .lt 15, 3) := by decide +kernel
theorem dX6_has_4 : decode cX6_has 4 = .ok (.iload_n 1, 1) := by decide +kernel
theorem dX6_has_5 : decode cX6_has 5 = .ok (.aload_n 0, 1) := by decide +kernel
theorem dX6_has_6 : decode cX6_has 6 = .ok (.getfield 20, 3) := by decide +kernel
theorem dX6_has_9 : decode cX6_has 9 = .ok (.if_icmp .ge 7, 3) := by decide +kernel
theorem dX6_has_12 : decode cX6_has 12 = .ok (.iconst 1, 1) := by decide +kernel
theorem dX6_has_13 : decode cX6_has 13 = .ok (.goto 4, 3) := by decide +kernel
theorem dX6_has_16 : decode cX6_has 16 = .ok (.iconst 0, 1) := by decide +kernel
theorem dX6_has_17 : decode cX6_has 17 = .ok (.ireturn, 1) := by decide +kernel
theorem dX6_add_0 : decode cX6_add 0 = .ok (.aload_n 0, 1) := by decide +kernel
theorem dX6_add_1 : decode cX6_add 1 = .ok (.getfield 13, 3) := by decide +kernel
theorem dX6_add_4 : decode cX6_add 4 = .ok (.aload_n 0, 1) := by decide +kernel
theorem dX6_add_5 : decode cX6_add 5 = .ok (.getfield 20, 3) := by decide +kernel
theorem dX6_add_8 : decode cX6_add 8 = .ok (.iload_n 1, 1) := by decide +kernel
theorem dX6_add_9 : decode cX6_add 9 = .ok (.iload_n 2, 1) := by decide +kernel
theorem dX6_add_10 : decode cX6_add 10 = .ok (.iand, 1) := by decide +kernel
theorem dX6_add_11 : decode cX6_add 11 = .ok (.iastore, 1) := by decide +kernel
theorem dX6_add_12 : decode cX6_add 12 = .ok (.aload_n 0, 1) := by decide +kernel
theorem dX6_add_13 : decode cX6_add 13 = .ok (.getfield 17, 3) := by decide +kernel
theorem dX6_add_16 : decode cX6_add 16 = .ok (.aload_n 0, 1) := by decide +kernel
theorem dX6_add_17 : decode cX6_add 17 = .ok (.getfield 20, 3) := by decide +kernel
theorem dX6_add_20 : decode cX6_add 20 = .ok (.iload_n 2, 1) := by decide +kernel
theorem dX6_add_21 : decode cX6_add 21 = .ok (.iastore, 1) := by decide +kernel
theorem dX6_add_22 : decode cX6_add 22 = .ok (.aload_n 0, 1) := by decide +kernel
theorem dX6_add_23 : decode cX6_add 23 = .ok (.dup, 1) := by decide +kernel
theorem dX6_add_24 : decode cX6_add 24 = .ok (.getfield 20, 3) := by decide +kernel
theorem dX6_add_27 : decode cX6_add 27 = .ok (.dup_x1, 1) := by decide +kernel
theorem dX6_add_28 : decode cX6_add 28 = .ok (.iconst 1, 1) := by decide +kernel
theorem dX6_add_29 : decode cX6_add 29 = .ok (.iadd, 1) := by decide +kernel
theorem dX6_add_30 : decode cX6_add 30 = .ok (.putfield 20, 3) := by decide +kernel
theorem dX6_add_33 : decode cX6_add 33 = .ok (.ireturn, 1) := by decide +kernel
theorem dX6_atOdds_0 : decode cX6_atOdds 0 = .ok (.aload_n 0, 1) := by decide +kernel
theorem dX6_atOdds_1 : decode cX6_atOdds 1 = .ok (.getfield 13, 3) := by decide +kernel
theorem dX6_atOdds_4 : decode cX6_atOdds 4 = .ok (.iload_n 1, 1) := by decide +kernel
theorem dX6_atOdds_5 : decode cX6_atOdds 5 = .ok (.iaload, 1) := by decide +kernel
theorem dX6_atOdds_6 : decode cX6_atOdds 6 = .ok (.aload_n 0, 1) := by decide +kernel
theorem dX6_atOdds_7 : decode cX6_atOdds 7 = .ok (.getfield 13, 3) := by decide +kernel
theorem dX6_atOdds_10 : decode cX6_atOdds 10 = .ok (.iload_n 2, 1) := by decide +kernel
theorem dX6_atOdds_11 : decode cX6_atOdds 11 = .ok (.iaload, 1) := by decide +kernel
theorem dX6_atOdds_12 : decode cX6_atOdds 12 = .ok (.ixor, 1) := by decide +kernel
theorem dX6_atOdds_13 : decode cX6_atOdds 13 = .ok (.aload_n 0, 1) := by decide +kernel
theorem dX6_atOdds_14 : decode cX6_atOdds 14 = .ok (.getfield 17, 3) := by decide +kernel
theorem dX6_atOdds_17 : decode cX6_atOdds 17 = .ok (.iload_n 1, 1) := by decide +kernel
theorem dX6_atOdds_18 : decode cX6_atOdds 18 = .ok (.iaload, 1) := by decide +kernel
theorem dX6_atOdds_19 : decode cX6_atOdds 19 = .ok (.iand, 1) := by decide +kernel
theorem dX6_atOdds_20 : decode cX6_atOdds 20 = .ok (.aload_n 0, 1) := by decide +kernel
theorem dX6_atOdds_21 : decode cX6_atOdds 21 = .ok (.getfield 17, 3) := by decide +kernel
theorem dX6_atOdds_24 : decode cX6_atOdds 24 = .ok (.iload_n 2, 1) := by decide +kernel
theorem dX6_atOdds_25 : decode cX6_atOdds 25 = .ok (.iaload, 1) := by decide +kernel
theorem dX6_atOdds_26 : decode cX6_atOdds 26 = .ok (.iand, 1) := by decide +kernel
theorem dX6_atOdds_27 : decode cX6_atOdds 27 = .ok (.ifCond .eq 7, 3) := by decide +kernel
theorem dX6_atOdds_30 : decode cX6_atOdds 30 = .ok (.iconst 1, 1) := by decide +kernel
theorem dX6_atOdds_31 : decode cX6_atOdds 31 = .ok (.goto 4, 3) := by decide +kernel
theorem dX6_atOdds_34 : decode cX6_atOdds 34 = .ok (.iconst 0, 1) := by decide +kernel
theorem dX6_atOdds_35 : decode cX6_atOdds 35 = .ok (.ireturn, 1) := by decide +kernel
theorem dX6_match_0 : decode cX6_match 0 = .ok (.aload_n 0, 1) := by decide +kernel
theorem dX6_match_1 : decode cX6_match 1 = .ok (.iload_n 1, 1) := by decide +kernel
theorem dX6_match_2 : decode cX6_match 2 = .ok (.iload_n 2, 1) := by decide +kernel
theorem dX6_match_3 : decode cX6_match 3 = .ok (.invokevirtual 23, 3) := by decide +kernel
theorem dX6_match_6 : decode cX6_match 6 = .ok (.ifCond .ne 30, 3) := by decide +kernel
theorem dX6_match_9 : decode cX6_match 9 = .ok (.aload_n 0, 1) := by decide +kernel
theorem dX6_match_10 : decode cX6_match 10 = .ok (.getfield 17, 3) := by decide +kernel
theorem dX6_match_13 : decode cX6_match 13 = .ok (.iload_n 1, 1) := by decide +kernel
theorem dX6_match_14 : decode cX6_match 14 = .ok (.iaload, 1) := by decide +kernel
theorem dX6_match_15 : decode cX6_match 15 = .ok (.aload_n 0, 1) := by decide +kernel
theorem dX6_match_16 : decode cX6_match 16 = .ok (.getfield 17, 3) := by decide +kernel
theorem dX6_match_19 : decode cX6_match 19 = .ok (.iload_n 2, 1) := by decide +kernel
theorem dX6_match_20 : decode cX6_match 20 = .ok (.iaload, 1) := by decide +kernel
theorem dX6_match_21 : decode cX6_match 21 = .ok (.iand, 1) := by decide +kernel
theorem dX6_match_22 : decode cX6_match 22 = .ok (.invokestatic 27, 3) := by decide +kernel
theorem dX6_match_25 : decode cX6_match 25 = .ok (.aload_n 0, 1) := by decide +kernel
theorem dX6_match_26 : decode cX6_match 26 = .ok (.getfield 7, 3) := by decide +kernel
theorem dX6_match_29 : decode cX6_match 29 = .ok (.if_icmp .lt 7, 3) := by decide +kernel
theorem dX6_match_32 : decode cX6_match 32 = .ok (.iconst 1, 1) := by decide +kernel
theorem dX6_match_33 : decode cX6_match 33 = .ok (.goto 4, 3) := by decide +kernel
theorem dX6_match_36 : decode cX6_match 36 = .ok (.iconst 0, 1) := by decide +kernel
theorem dX6_match_37 : decode cX6_match 37 = .ok (.ireturn, 1) := by decide +kernel
theorem dX6_thingOf_0 : decode cX6_thingOf 0 = .ok (.iconst 1, 1) := by decide +kernel
theorem dX6_thingOf_1 : decode cX6_thingOf 1 = .ok (.iload_n 1, 1) := by decide +kernel
theorem dX6_thingOf_2 : decode cX6_thingOf 2 = .ok (.ishl, 1) := by decide +kernel
theorem dX6_thingOf_3 : decode cX6_thingOf 3 = .ok (.istore_n 2, 1) := by decide +kernel
theorem dX6_thingOf_4 : decode cX6_thingOf 4 = .ok (.iconst 1, 1) := by decide +kernel
theorem dX6_thingOf_5 : decode cX6_thingOf 5 = .ok (.istore_n 3, 1) := by decide +kernel
theorem dX6_thingOf_6 : decode cX6_thingOf 6 = .ok (.iload_n 3, 1) := by decide +kernel
theorem dX6_thingOf_7 : decode cX6_thingOf 7 = .ok (.aload_n 0, 1) := by decide +kernel
theorem dX6_thingOf_8 : decode cX6_thingOf 8 = .ok (.getfield 20, 3) := by decide +kernel
theorem dX6_thingOf_11 : decode cX6_thingOf 11 = .ok (.if_icmp .ge 65, 3) := by decide +kernel
theorem dX6_thingOf_14 : decode cX6_thingOf 14 = .ok (.iload_n 2, 1) := by decide +kernel
theorem dX6_thingOf_15 : decode cX6_thingOf 15 = .ok (.istore 4, 2) := by decide +kernel
theorem dX6_thingOf_17 : decode cX6_thingOf 17 = .ok (.iconst 0, 1) := by decide +kernel
theorem dX6_thingOf_18 : decode cX6_thingOf 18 = .ok (.istore 5, 2) := by decide +kernel
theorem dX6_thingOf_20 : decode cX6_thingOf 20 = .ok (.iload 5, 2) := by decide +kernel
theorem dX6_thingOf_22 : decode cX6_thingOf 22 = .ok (.aload_n 0, 1) := by decide +kernel
theorem dX6_thingOf_23 : decode cX6_thingOf 23 = .ok (.getfield 20, 3) := by decide +kernel
theorem dX6_thingOf_26 : decode cX6_thingOf 26 = .ok (.if_icmp .ge 35, 3) := by decide +kernel
theorem dX6_thingOf_29 : decode cX6_thingOf 29 = .ok (.iload_n 2, 1) := by decide +kernel
theorem dX6_thingOf_30 : decode cX6_thingOf 30 = .ok (.iload 5, 2) := by decide +kernel
theorem dX6_thingOf_32 : decode cX6_thingOf 32 = .ok (.invokestatic 33, 3) := by decide +kernel
theorem dX6_thingOf_35 : decode cX6_thingOf 35 = .ok (.ifCond .ne 20, 3) := by decide +kernel
theorem dX6_thingOf_38 : decode cX6_thingOf 38 = .ok (.aload_n 0, 1) := by decide +kernel
theorem dX6_thingOf_39 : decode cX6_thingOf 39 = .ok (.iload_n 2, 1) := by decide +kernel
theorem dX6_thingOf_40 : decode cX6_thingOf 40 = .ok (.iload 5, 2) := by decide +kernel
theorem dX6_thingOf_42 : decode cX6_thingOf 42 = .ok (.invokevirtual 38, 3) := by decide +kernel
theorem dX6_thingOf_45 : decode cX6_thingOf 45 = .ok (.ifCond .eq 10, 3) := by decide +kernel
theorem dX6_thingOf_48 : decode cX6_thingOf 48 = .ok (.iload_n 2, 1) := by decide +kernel
theorem dX6_thingOf_49 : decode cX6_thingOf 49 = .ok (.iconst 1, 1) := by decide +kernel
theorem dX6_thingOf_50 : decode cX6_thingOf 50 = .ok (.iload 5, 2) := by decide +kernel
theorem dX6_thingOf_52 : decode cX6_thingOf 52 = .ok (.ishl, 1) := by decide +kernel
theorem dX6_thingOf_53 : decode cX6_thingOf 53 = .ok (.ior, 1) := by decide +kernel
theorem dX6_thingOf_54 : decode cX6_thingOf 54 = .ok (.istore_n 2, 1) := by decide +kernel
theorem dX6_thingOf_55 : decode cX6_thingOf 55 = .ok (.iinc 5 1, 3) := by decide +kernel
theorem dX6_thingOf_58 : decode cX6_thingOf 58 = .ok (.goto (-38), 3) := by decide +kernel
theorem dX6_thingOf_61 : decode cX6_thingOf 61 = .ok (.iload_n 2, 1) := by decide +kernel
theorem dX6_thingOf_62 : decode cX6_thingOf 62 = .ok (.iload 4, 2) := by decide +kernel
theorem dX6_thingOf_64 : decode cX6_thingOf 64 = .ok (.if_icmp .ne 6, 3) := by decide +kernel
theorem dX6_thingOf_67 : decode cX6_thingOf 67 = .ok (.goto 9, 3) := by decide +kernel
theorem dX6_thingOf_70 : decode cX6_thingOf 70 = .ok (.iinc 3 1, 3) := by decide +kernel
theorem dX6_thingOf_73 : decode cX6_thingOf 73 = .ok (.goto (-67), 3) := by decide +kernel
theorem dX6_thingOf_76 : decode cX6_thingOf 76 = .ok (.iload_n 2, 1) := by decide +kernel
theorem dX6_thingOf_77 : decode cX6_thingOf 77 = .ok (.ireturn, 1) := by decide +kernel
theorem dX6_matchesOneOf_0 : decode cX6_matchesOneOf 0 = .ok (.iconst 0, 1) := by decide +kernel
theorem dX6_matchesOneOf_1 : decode cX6_matchesOneOf 1 = .ok (.istore_n 3, 1) := by decide +kernel
theorem dX6_matchesOneOf_2 : decode cX6_matchesOneOf 2 = .ok (.iload_n 3, 1) := by decide +kernel
theorem dX6_matchesOneOf_3 : decode cX6_matchesOneOf 3 = .ok (.aload_n 0, 1) := by decide +kernel
theorem dX6_matchesOneOf_4 : decode cX6_matchesOneOf 4 = .ok (.getfield 20, 3) := by decide +kernel
theorem dX6_matchesOneOf_7 : decode cX6_matchesOneOf 7 = .ok (.if_icmp .ge 28, 3) := by decide +kernel
theorem dX6_matchesOneOf_10 : decode cX6_matchesOneOf 10 = .ok (.iload_n 1, 1) := by decide +kernel
theorem dX6_matchesOneOf_11 : decode cX6_matchesOneOf 11 = .ok (.iload_n 3, 1) := by decide +kernel
theorem dX6_matchesOneOf_12 : decode cX6_matchesOneOf 12 = .ok (.invokestatic 33, 3) := by decide +kernel
theorem dX6_matchesOneOf_15 : decode cX6_matchesOneOf 15 = .ok (.ifCond .eq 14, 3) := by decide +kernel
theorem dX6_matchesOneOf_18 : decode cX6_matchesOneOf 18 = .ok (.aload_n 0, 1) := by decide +kernel
theorem dX6_matchesOneOf_19 : decode cX6_matchesOneOf 19 = .ok (.iload_n 3, 1) := by decide +kernel
theorem dX6_matchesOneOf_20 : decode cX6_matchesOneOf 20 = .ok (.iload_n 2, 1) := by decide +kernel
theorem dX6_matchesOneOf_21 : decode cX6_matchesOneOf 21 = .ok (.invokevirtual 41, 3) := by decide +kernel
theorem dX6_matchesOneOf_24 : decode cX6_matchesOneOf 24 = .ok (.ifCond .eq 5, 3) := by decide +kernel
theorem dX6_matchesOneOf_27 : decode cX6_matchesOneOf 27 = .ok (.iconst 1, 1) := by decide +kernel
theorem dX6_matchesOneOf_28 : decode cX6_matchesOneOf 28 = .ok (.ireturn, 1) := by decide +kernel
theorem dX6_matchesOneOf_29 : decode cX6_matchesOneOf 29 = .ok (.iinc 3 1, 3) := by decide +kernel
theorem dX6_matchesOneOf_32 : decode cX6_matchesOneOf 32 = .ok (.goto (-30), 3) := by decide +kernel
theorem dX6_matchesOneOf_35 : decode cX6_matchesOneOf 35 = .ok (.iconst 0, 1) := by decide +kernel
theorem dX6_matchesOneOf_36 : decode cX6_matchesOneOf 36 = .ok (.ireturn, 1) := by decide +kernel
theorem dX6_countThings_0 : decode cX6_countThings 0 = .ok (.iconst 0, 1) := by decide +kernel
theorem dX6_countThings_1 : decode cX6_countThings 1 = .ok (.istore_n 2, 1) := by decide +kernel
theorem dX6_countThings_2 : decode cX6_countThings 2 = .ok (.iconst 0, 1) := by decide +kernel
theorem dX6_countThings_3 : decode cX6_countThings 3 = .ok (.istore_n 3, 1) := by decide +kernel
theorem dX6_countThings_4 : decode cX6_countThings 4 = .ok (.iconst 0, 1) := by decide +kernel
theorem dX6_countThings_5 : decode cX6_countThings 5 = .ok (.istore 4, 2) := by decide +kernel
theorem dX6_countThings_7 : decode cX6_countThings 7 = .ok (.iload 4, 2) := by decide +kernel
theorem dX6_countThings_9 : decode cX6_countThings 9 = .ok (.aload_n 0, 1) := by decide +kernel
theorem dX6_countThings_10 : decode cX6_countThings 10 = .ok (.getfield 20, 3) := by decide +kernel
theorem dX6_countThings_13 : decode cX6_countThings 13 = .ok (.if_icmp .ge 50, 3) := by decide +kernel
theorem dX6_countThings_16 : decode cX6_countThings 16 = .ok (.iload_n 3, 1) := by decide +kernel
theorem dX6_countThings_17 : decode cX6_countThings 17 = .ok (.iload 4, 2) := by decide +kernel
theorem dX6_countThings_19 : decode cX6_countThings 19 = .ok (.invokestatic 33, 3) := by decide +kernel
theorem dX6_countThings_22 : decode cX6_countThings 22 = .ok (.ifCond .eq 6, 3) := by decide +kernel
theorem dX6_countThings_25 : decode cX6_countThings 25 = .ok (.goto 32, 3) := by decide +kernel
theorem dX6_countThings_28 : decode cX6_countThings 28 = .ok (.aload_n 0, 1) := by decide +kernel
theorem dX6_countThings_29 : decode cX6_countThings 29 = .ok (.iload 4, 2) := by decide +kernel
theorem dX6_countThings_31 : decode cX6_countThings 31 = .ok (.invokevirtual 44, 3) := by decide +kernel
theorem dX6_countThings_34 : decode cX6_countThings 34 = .ok (.istore 5, 2) := by decide +kernel
theorem dX6_countThings_36 : decode cX6_countThings 36 = .ok (.iload_n 3, 1) := by decide +kernel
theorem dX6_countThings_37 : decode cX6_countThings 37 = .ok (.iload 5, 2) := by decide +kernel
theorem dX6_countThings_39 : decode cX6_countThings 39 = .ok (.ior, 1) := by decide +kernel
theorem dX6_countThings_40 : decode cX6_countThings 40 = .ok (.istore_n 3, 1) := by decide +kernel
theorem dX6_countThings_41 : decode cX6_countThings 41 = .ok (.iload_n 1, 1) := by decide +kernel
theorem dX6_countThings_42 : decode cX6_countThings 42 = .ok (.ifCond .eq 12, 3) := by decide +kernel
theorem dX6_countThings_45 : decode cX6_countThings 45 = .ok (.aload_n 0, 1) := by decide +kernel
theorem dX6_countThings_46 : decode cX6_countThings 46 = .ok (.iload 5, 2) := by decide +kernel
theorem dX6_countThings_48 : decode cX6_countThings 48 = .ok (.invokevirtual 47, 3) := by decide +kernel
theorem dX6_countThings_51 : decode cX6_countThings 51 = .ok (.ifCond .eq 6, 3) := by decide +kernel
theorem dX6_countThings_54 : decode cX6_countThings 54 = .ok (.iinc 2 1, 3) := by decide +kernel
theorem dX6_countThings_57 : decode cX6_countThings 57 = .ok (.iinc 4 1, 3) := by decide +kernel
theorem dX6_countThings_60 : decode cX6_countThings 60 = .ok (.goto (-53), 3) := by decide +kernel
theorem dX6_countThings_63 : decode cX6_countThings 63 = .ok (.iload_n 2, 1) := by decide +kernel
theorem dX6_countThings_64 : decode cX6_countThings 64 = .ok (.ireturn, 1) := by decide +kernel
theorem dX6_tellsCopy_0 : decode cX6_tellsCopy 0 = .ok (.iconst 0, 1) := by decide +kernel
theorem dX6_tellsCopy_1 : decode cX6_tellsCopy 1 = .ok (.istore_n 2, 1) := by decide +kernel
theorem dX6_tellsCopy_2 : decode cX6_tellsCopy 2 = .ok (.iload_n 2, 1) := by decide +kernel
theorem dX6_tellsCopy_3 : decode cX6_tellsCopy 3 = .ok (.aload_n 0, 1) := by decide +kernel
theorem dX6_tellsCopy_4 : decode cX6_tellsCopy 4 = .ok (.getfield 20, 3) := by decide +kernel
theorem dX6_tellsCopy_7 : decode cX6_tellsCopy 7 = .ok (.if_icmp .ge 54, 3) := by decide +kernel
theorem dX6_tellsCopy_10 : decode cX6_tellsCopy 10 = .ok (.iload_n 2, 1) := by decide +kernel
theorem dX6_tellsCopy_11 : decode cX6_tellsCopy 11 = .ok (.iconst 1, 1) := by decide +kernel
theorem dX6_tellsCopy_12 : decode cX6_tellsCopy 12 = .ok (.iadd, 1) := by decide +kernel
theorem dX6_tellsCopy_13 : decode cX6_tellsCopy 13 = .ok (.istore_n 3, 1) := by decide +kernel
theorem dX6_tellsCopy_14 : decode cX6_tellsCopy 14 = .ok (.iload_n 3, 1) := by decide +kernel
theorem dX6_tellsCopy_15 : decode cX6_tellsCopy 15 = .ok (.aload_n 0, 1) := by decide +kernel
theorem dX6_tellsCopy_16 : decode cX6_tellsCopy 16 = .ok (.getfield 20, 3) := by decide +kernel
theorem dX6_tellsCopy_19 : decode cX6_tellsCopy 19 = .ok (.if_icmp .ge 36, 3) := by decide +kernel
theorem dX6_tellsCopy_22 : decode cX6_tellsCopy 22 = .ok (.iload_n 1, 1) := by decide +kernel
theorem dX6_tellsCopy_23 : decode cX6_tellsCopy 23 = .ok (.iload_n 2, 1) := by decide +kernel
theorem dX6_tellsCopy_24 : decode cX6_tellsCopy 24 = .ok (.invokestatic 33, 3) := by decide +kernel
theorem dX6_tellsCopy_27 : decode cX6_tellsCopy 27 = .ok (.ifCond .eq 22, 3) := by decide +kernel
theorem dX6_tellsCopy_30 : decode cX6_tellsCopy 30 = .ok (.iload_n 1, 1) := by decide +kernel
theorem dX6_tellsCopy_31 : decode cX6_tellsCopy 31 = .ok (.iload_n 3, 1) := by decide +kernel
theorem dX6_tellsCopy_32 : decode cX6_tellsCopy 32 = .ok (.invokestatic 33, 3) := by decide +kernel
theorem dX6_tellsCopy_35 : decode cX6_tellsCopy 35 = .ok (.ifCond .eq 14, 3) := by decide +kernel
theorem dX6_tellsCopy_38 : decode cX6_tellsCopy 38 = .ok (.aload_n 0, 1) := by decide +kernel
theorem dX6_tellsCopy_39 : decode cX6_tellsCopy 39 = .ok (.iload_n 2, 1) := by decide +kernel
theorem dX6_tellsCopy_40 : decode cX6_tellsCopy 40 = .ok (.iload_n 3, 1) := by decide +kernel
theorem dX6_tellsCopy_41 : decode cX6_tellsCopy 41 = .ok (.invokevirtual 23, 3) := by decide +kernel
theorem dX6_tellsCopy_44 : decode cX6_tellsCopy 44 = .ok (.ifCond .eq 5, 3) := by decide +kernel
theorem dX6_tellsCopy_47 : decode cX6_tellsCopy 47 = .ok (.iconst 1, 1) := by decide +kernel
theorem dX6_tellsCopy_48 : decode cX6_tellsCopy 48 = .ok (.ireturn, 1) := by decide +kernel
theorem dX6_tellsCopy_49 : decode cX6_tellsCopy 49 = .ok (.iinc 3 1, 3) := by decide +kernel
theorem dX6_tellsCopy_52 : decode cX6_tellsCopy 52 = .ok (.goto (-38), 3) := by decide +kernel
theorem dX6_tellsCopy_55 : decode cX6_tellsCopy 55 = .ok (.iinc 2 1, 3) := by decide +kernel
theorem dX6_tellsCopy_58 : decode cX6_tellsCopy 58 = .ok (.goto (-56), 3) := by decide +kernel
theorem dX6_tellsCopy_61 : decode cX6_tellsCopy 61 = .ok (.iconst 0, 1) := by decide +kernel
theorem dX6_tellsCopy_62 : decode cX6_tellsCopy 62 = .ok (.ireturn, 1) := by decide +kernel
theorem dX7_init_0 : decode cX7_init 0 = .ok (.aload_n 0, 1) := by decide +kernel
theorem dX7_init_1 : decode cX7_init 1 = .ok (.invokespecial 1, 3) := by decide +kernel
theorem dX7_init_4 : decode cX7_init 4 = .ok (.aload_n 0, 1) := by decide +kernel
theorem dX7_init_5 : decode cX7_init 5 = .ok (.iconst 4, 1) := by decide +kernel
theorem dX7_init_6 : decode cX7_init 6 = .ok (.newarray .int, 2) := by decide +kernel
theorem dX7_init_8 : decode cX7_init 8 = .ok (.dup, 1) := by decide +kernel
theorem dX7_init_9 : decode cX7_init 9 = .ok (.iconst 0, 1) := by decide +kernel
theorem dX7_init_10 : decode cX7_init 10 = .ok (.iconst (-1), 1) := by decide +kernel
theorem dX7_init_11 : decode cX7_init 11 = .ok (.iastore, 1) := by decide +kernel
theorem dX7_init_12 : decode cX7_init 12 = .ok (.dup, 1) := by decide +kernel
theorem dX7_init_13 : decode cX7_init 13 = .ok (.iconst 1, 1) := by decide +kernel
theorem dX7_init_14 : decode cX7_init 14 = .ok (.iconst (-1), 1) := by decide +kernel
theorem dX7_init_15 : decode cX7_init 15 = .ok (.iastore, 1) := by decide +kernel
theorem dX7_init_16 : decode cX7_init 16 = .ok (.dup, 1) := by decide +kernel
theorem dX7_init_17 : decode cX7_init 17 = .ok (.iconst 2, 1) := by decide +kernel
theorem dX7_init_18 : decode cX7_init 18 = .ok (.iconst (-1), 1) := by decide +kernel
theorem dX7_init_19 : decode cX7_init 19 = .ok (.iastore, 1) := by decide +kernel
theorem dX7_init_20 : decode cX7_init 20 = .ok (.dup, 1) := by decide +kernel
theorem dX7_init_21 : decode cX7_init 21 = .ok (.iconst 3, 1) := by decide +kernel
theorem dX7_init_22 : decode cX7_init 22 = .ok (.iconst (-1), 1) := by decide +kernel
theorem dX7_init_23 : decode cX7_init 23 = .ok (.iastore, 1) := by decide +kernel
theorem dX7_init_24 : decode cX7_init 24 = .ok (.putfield 9, 3) := by decide +kernel
theorem dX7_init_27 : decode cX7_init 27 = .ok (.aload_n 0, 1) := by decide +kernel
theorem dX7_init_28 : decode cX7_init 28 = .ok (.iconst 4, 1) := by decide +kernel
theorem dX7_init_29 : decode cX7_init 29 = .ok (.newarray .int, 2) := by decide +kernel
theorem dX7_init_31 : decode cX7_init 31 = .ok (.putfield 13, 3) := by decide +kernel
theorem dX7_init_34 : decode cX7_init 34 = .ok (.aload_n 0, 1) := by decide +kernel
theorem dX7_init_35 : decode cX7_init 35 = .ok (.sipush 160, 3) := by decide +kernel
theorem dX7_init_38 : decode cX7_init 38 = .ok (.newarray .int, 2) := by decide +kernel
theorem dX7_init_40 : decode cX7_init 40 = .ok (.putfield 16, 3) := by decide +kernel
theorem dX7_init_43 : decode cX7_init 43 = .ok (.return_, 1) := by decide +kernel
theorem dX7_isSheet_0 : decode cX7_isSheet 0 = .ok (.iload_n 0, 1) := by decide +kernel
theorem dX7_isSheet_1 : decode cX7_isSheet 1 = .ok (.ifCond .lt 12, 3) := by decide +kernel
theorem dX7_isSheet_4 : decode cX7_isSheet 4 = .ok (.iload_n 0, 1) := by decide +kernel
theorem dX7_isSheet_5 : decode cX7_isSheet 5 = .ok (.iconst 4, 1) := by decide +kernel
theorem dX7_isSheet_6 : decode cX7_isSheet 6 = .ok (.if_icmp .ge 7, 3) := by decide +kernel
theorem dX7_isSheet_9 : decode cX7_isSheet 9 = .ok (.iconst 1, 1) := by decide +kernel
theorem dX7_isSheet_10 : decode cX7_isSheet 10 = .ok (.goto 4, 3) := by decide +kernel
theorem dX7_isSheet_13 : decode cX7_isSheet 13 = .ok (.iconst 0, 1) := by decide +kernel
theorem dX7_isSheet_14 : decode cX7_isSheet 14 = .ok (.ireturn, 1) := by decide +kernel
theorem dX7_isSort_0 : decode cX7_isSort 0 = .ok (.iload_n 0, 1) := by decide +kernel
theorem dX7_isSort_1 : decode cX7_isSort 1 = .ok (.ifCond .lt 12, 3) := by decide +kernel
theorem dX7_isSort_4 : decode cX7_isSort 4 = .ok (.iload_n 0, 1) := by decide +kernel
theorem dX7_isSort_5 : decode cX7_isSort 5 = .ok (.iconst 3, 1) := by decide +kernel
theorem dX7_isSort_6 : decode cX7_isSort 6 = .ok (.if_icmp .ge 7, 3) := by decide +kernel
theorem dX7_isSort_9 : decode cX7_isSort 9 = .ok (.iconst 1, 1) := by decide +kernel
theorem dX7_isSort_10 : decode cX7_isSort 10 = .ok (.goto 4, 3) := by decide +kernel
theorem dX7_isSort_13 : decode cX7_isSort 13 = .ok (.iconst 0, 1) := by decide +kernel
theorem dX7_isSort_14 : decode cX7_isSort 14 = .ok (.ireturn, 1) := by decide +kernel
theorem dX7_isMissing_0 : decode cX7_isMissing 0 = .ok (.aload_n 0, 1) := by decide +kernel
theorem dX7_isMissing_1 : decode cX7_isMissing 1 = .ok (.getfield 9, 3) := by decide +kernel
theorem dX7_isMissing_4 : decode cX7_isMissing 4 = .ok (.iload_n 1, 1) := by decide +kernel
theorem dX7_isMissing_5 : decode cX7_isMissing 5 = .ok (.iaload, 1) := by decide +kernel
theorem dX7_isMissing_6 : decode cX7_isMissing 6 = .ok (.iconst (-1), 1) := by decide +kernel
theorem dX7_isMissing_7 : decode cX7_isMissing 7 = .ok (.if_icmp .ne 7, 3) := by decide +kernel
theorem dX7_isMissing_10 : decode cX7_isMissing 10 = .ok (.iconst 1, 1) := by decide +kernel
theorem dX7_isMissing_11 : decode cX7_isMissing 11 = .ok (.goto 4, 3) := by decide +kernel
theorem dX7_isMissing_14 : decode cX7_isMissing 14 = .ok (.iconst 0, 1) := by decide +kernel
theorem dX7_isMissing_15 : decode cX7_isMissing 15 = .ok (.ireturn, 1) := by decide +kernel
theorem dX7_lose_0 : decode cX7_lose 0 = .ok (.aload_n 0, 1) := by decide +kernel
theorem dX7_lose_1 : decode cX7_lose 1 = .ok (.getfield 9, 3) := by decide +kernel
theorem dX7_lose_4 : decode cX7_lose 4 = .ok (.iload_n 1, 1) := by decide +kernel
theorem dX7_lose_5 : decode cX7_lose 5 = .ok (.iconst (-1), 1) := by decide +kernel
theorem dX7_lose_6 : decode cX7_lose 6 = .ok (.iastore, 1) := by decide +kernel
theorem dX7_lose_7 : decode cX7_lose 7 = .ok (.iconst 1, 1) := by decide +kernel
theorem dX7_lose_8 : decode cX7_lose 8 = .ok (.ireturn, 1) := by decide +kernel
theorem dX7_lay_0 : decode cX7_lay 0 = .ok (.aload_n 0, 1) := by decide +kernel
theorem dX7_lay_1 : decode cX7_lay 1 = .ok (.getfield 9, 3) := by decide +kernel
theorem dX7_lay_4 : decode cX7_lay 4 = .ok (.iload_n 1, 1) := by decide +kernel
theorem dX7_lay_5 : decode cX7_lay 5 = .ok (.iload_n 2, 1) := by decide +kernel
theorem dX7_lay_6 : decode cX7_lay 6 = .ok (.iastore, 1) := by decide +kernel
theorem dX7_lay_7 : decode cX7_lay 7 = .ok (.aload_n 0, 1) := by decide +kernel
theorem dX7_lay_8 : decode cX7_lay 8 = .ok (.getfield 13, 3) := by decide +kernel
theorem dX7_lay_11 : decode cX7_lay 11 = .ok (.iload_n 1, 1) := by decide +kernel
theorem dX7_lay_12 : decode cX7_lay 12 = .ok (.iload_n 3, 1) := by decide +kernel
theorem dX7_lay_13 : decode cX7_lay 13 = .ok (.iastore, 1) := by decide +kernel
theorem dX7_lay_14 : decode cX7_lay 14 = .ok (.iconst 0, 1) := by decide +kernel
theorem dX7_lay_15 : decode cX7_lay 15 = .ok (.istore 4, 2) := by decide +kernel
theorem dX7_lay_17 : decode cX7_lay 17 = .ok (.iload 4, 2) := by decide +kernel
theorem dX7_lay_19 : decode cX7_lay 19 = .ok (.iload_n 3, 1) := by decide +kernel
theorem dX7_lay_20 : decode cX7_lay 20 = .ok (.if_icmp .ge 22, 3) := by decide +kernel
theorem dX7_lay_23 : decode cX7_lay 23 = .ok (.aload_n 0, 1) := by decide +kernel
theorem dX7_lay_24 : decode cX7_lay 24 = .ok (.getfield 16, 3) := by decide +kernel
theorem dX7_lay_27 : decode cX7_lay 27 = .ok (.iload_n 1, 1) := by decide +kernel
theorem dX7_lay_28 : decode cX7_lay 28 = .ok (.bipush 40, 2) := by decide +kernel
theorem dX7_lay_30 : decode cX7_lay 30 = .ok (.imul, 1) := by decide +kernel
theorem dX7_lay_31 : decode cX7_lay 31 = .ok (.iload 4, 2) := by decide +kernel
theorem dX7_lay_33 : decode cX7_lay 33 = .ok (.iadd, 1) := by decide +kernel
theorem dX7_lay_34 : decode cX7_lay 34 = .ok (.iconst 0, 1) := by decide +kernel
theorem dX7_lay_35 : decode cX7_lay 35 = .ok (.iastore, 1) := by decide +kernel
theorem dX7_lay_36 : decode cX7_lay 36 = .ok (.iinc 4 1, 3) := by decide +kernel
theorem dX7_lay_39 : decode cX7_lay 39 = .ok (.goto (-22), 3) := by decide +kernel
theorem dX7_lay_42 : decode cX7_lay 42 = .ok (.iconst 1, 1) := by decide +kernel
theorem dX7_lay_43 : decode cX7_lay 43 = .ok (.ireturn, 1) := by decide +kernel
theorem dX7_holds_0 : decode cX7_holds 0 = .ok (.iload_n 2, 1) := by decide +kernel
theorem dX7_holds_1 : decode cX7_holds 1 = .ok (.ifCond .lt 23, 3) := by decide +kernel
theorem dX7_holds_4 : decode cX7_holds 4 = .ok (.iload_n 3, 1) := by decide +kernel
theorem dX7_holds_5 : decode cX7_holds 5 = .ok (.ifCond .lt 19, 3) := by decide +kernel
theorem dX7_holds_8 : decode cX7_holds 8 = .ok (.iload_n 2, 1) := by decide +kernel
theorem dX7_holds_9 : decode cX7_holds 9 = .ok (.aload_n 0, 1) := by decide +kernel
theorem dX7_holds_10 : decode cX7_holds 10 = .ok (.getfield 13, 3) := by decide +kernel
theorem dX7_holds_13 : decode cX7_holds 13 = .ok (.iload_n 1, 1) := by decide +kernel
theorem dX7_holds_14 : decode cX7_holds 14 = .ok (.iaload, 1) := by decide +kernel
theorem dX7_holds_15 : decode cX7_holds 15 = .ok (.iload_n 3, 1) := by decide +kernel
theorem dX7_holds_16 : decode cX7_holds 16 = .ok (.isub, 1) := by decide +kernel
theorem dX7_holds_17 : decode cX7_holds 17 = .ok (.if_icmp .gt 7, 3) := by decide +kernel
theorem dX7_holds_20 : decode cX7_holds 20 = .ok (.iconst 1, 1) := by decide +kernel
theorem dX7_holds_21 : decode cX7_holds 21 = .ok (.goto 4, 3) := by decide +kernel
theorem dX7_holds_24 : decode cX7_holds 24 = .ok (.iconst 0, 1) := by decide +kernel
theorem dX7_holds_25 : decode cX7_holds 25 = .ok (.ireturn, 1) := by decide +kernel
theorem dX7_write_0 : decode cX7_write 0 = .ok (.aload_n 0, 1) := by decide +kernel
theorem dX7_write_1 : decode cX7_write 1 = .ok (.getfield 16, 3) := by decide +kernel
theorem dX7_write_4 : decode cX7_write 4 = .ok (.iload_n 1, 1) := by decide +kernel
theorem dX7_write_5 : decode cX7_write 5 = .ok (.bipush 40, 2) := by decide +kernel
theorem dX7_write_7 : decode cX7_write 7 = .ok (.imul, 1) := by decide +kernel
theorem dX7_write_8 : decode cX7_write 8 = .ok (.iload_n 2, 1) := by decide +kernel
theorem dX7_write_9 : decode cX7_write 9 = .ok (.iadd, 1) := by decide +kernel
theorem dX7_write_10 : decode cX7_write 10 = .ok (.aload_n 0, 1) := by decide +kernel
theorem dX7_write_11 : decode cX7_write 11 = .ok (.getfield 9, 3) := by decide +kernel
theorem dX7_write_14 : decode cX7_write 14 = .ok (.iload_n 1, 1) := by decide +kernel
theorem dX7_write_15 : decode cX7_write 15 = .ok (.iaload, 1) := by decide +kernel
theorem dX7_write_16 : decode cX7_write 16 = .ok (.iload_n 3, 1) := by decide +kernel
theorem dX7_write_17 : decode cX7_write 17 = .ok (.invokestatic 19, 3) := by decide +kernel
theorem dX7_write_20 : decode cX7_write 20 = .ok (.iastore, 1) := by decide +kernel
theorem dX7_write_21 : decode cX7_write 21 = .ok (.iconst 1, 1) := by decide +kernel
theorem dX7_write_22 : decode cX7_write 22 = .ok (.ireturn, 1) := by decide +kernel
theorem dX7_read_0 : decode cX7_read 0 = .ok (.aload_n 0, 1) := by decide +kernel
theorem dX7_read_1 : decode cX7_read 1 = .ok (.getfield 16, 3) := by decide +kernel
theorem dX7_read_4 : decode cX7_read 4 = .ok (.iload_n 1, 1) := by decide +kernel
theorem dX7_read_5 : decode cX7_read 5 = .ok (.bipush 40, 2) := by decide +kernel
theorem dX7_read_7 : decode cX7_read 7 = .ok (.imul, 1) := by decide +kernel
theorem dX7_read_8 : decode cX7_read 8 = .ok (.iload_n 2, 1) := by decide +kernel
theorem dX7_read_9 : decode cX7_read 9 = .ok (.iadd, 1) := by decide +kernel
theorem dX7_read_10 : decode cX7_read 10 = .ok (.iaload, 1) := by decide +kernel
theorem dX7_read_11 : decode cX7_read 11 = .ok (.ireturn, 1) := by decide +kernel
theorem dX7_move_0 : decode cX7_move 0 = .ok (.aload_n 0, 1) := by decide +kernel
theorem dX7_move_1 : decode cX7_move 1 = .ok (.getfield 16, 3) := by decide +kernel
theorem dX7_move_4 : decode cX7_move 4 = .ok (.iload_n 1, 1) := by decide +kernel
theorem dX7_move_5 : decode cX7_move 5 = .ok (.bipush 40, 2) := by decide +kernel
theorem dX7_move_7 : decode cX7_move 7 = .ok (.imul, 1) := by decide +kernel
theorem dX7_move_8 : decode cX7_move 8 = .ok (.iload_n 2, 1) := by decide +kernel
theorem dX7_move_9 : decode cX7_move 9 = .ok (.iadd, 1) := by decide +kernel
theorem dX7_move_10 : decode cX7_move 10 = .ok (.aload_n 0, 1) := by decide +kernel
theorem dX7_move_11 : decode cX7_move 11 = .ok (.getfield 16, 3) := by decide +kernel
theorem dX7_move_14 : decode cX7_move 14 = .ok (.iload_n 3, 1) := by decide +kernel
theorem dX7_move_15 : decode cX7_move 15 = .ok (.bipush 40, 2) := by decide +kernel
theorem dX7_move_17 : decode cX7_move 17 = .ok (.imul, 1) := by decide +kernel
theorem dX7_move_18 : decode cX7_move 18 = .ok (.iload 4, 2) := by decide +kernel
theorem dX7_move_20 : decode cX7_move 20 = .ok (.iadd, 1) := by decide +kernel
theorem dX7_move_21 : decode cX7_move 21 = .ok (.iload 5, 2) := by decide +kernel
theorem dX7_move_23 : decode cX7_move 23 = .ok (.invokestatic 23, 3) := by decide +kernel
theorem dX7_move_26 : decode cX7_move 26 = .ok (.iload 5, 2) := by decide +kernel
theorem dX7_move_28 : decode cX7_move 28 = .ok (.ireturn, 1) := by decide +kernel
theorem dX7_cut_0 : decode cX7_cut 0 = .ok (.iload_n 0, 1) := by decide +kernel
theorem dX7_cut_1 : decode cX7_cut 1 = .ok (.ifCond .ne 6, 3) := by decide +kernel
theorem dX7_cut_4 : decode cX7_cut 4 = .ok (.iload_n 1, 1) := by decide +kernel
theorem dX7_cut_5 : decode cX7_cut 5 = .ok (.i2b, 1) := by decide +kernel
theorem dX7_cut_6 : decode cX7_cut 6 = .ok (.ireturn, 1) := by decide +kernel
theorem dX7_cut_7 : decode cX7_cut 7 = .ok (.iload_n 0, 1) := by decide +kernel
theorem dX7_cut_8 : decode cX7_cut 8 = .ok (.iconst 1, 1) := by decide +kernel
theorem dX7_cut_9 : decode cX7_cut 9 = .ok (.if_icmp .ne 8, 3) := by decide +kernel
theorem dX7_cut_12 : decode cX7_cut 12 = .ok (.iload_n 1, 1) := by decide +kernel
theorem dX7_cut_13 : decode cX7_cut 13 = .ok (.i2s, 1) := by decide +kernel
theorem dX7_cut_14 : decode cX7_cut 14 = .ok (.goto 4, 3) := by decide +kernel
theorem dX7_cut_17 : decode cX7_cut 17 = .ok (.iload_n 1, 1) := by decide +kernel
theorem dX7_cut_18 : decode cX7_cut 18 = .ok (.ireturn, 1) := by decide +kernel
theorem dX8_init_0 : decode cX8_init 0 = .ok (.aload_n 0, 1) := by decide +kernel
theorem dX8_init_1 : decode cX8_init 1 = .ok (.invokespecial 1, 3) := by decide +kernel
theorem dX8_init_4 : decode cX8_init 4 = .ok (.aload_n 0, 1) := by decide +kernel
theorem dX8_init_5 : decode cX8_init 5 = .ok (.bipush 8, 2) := by decide +kernel
theorem dX8_init_7 : decode cX8_init 7 = .ok (.newarray .int, 2) := by decide +kernel
theorem dX8_init_9 : decode cX8_init 9 = .ok (.putfield 9, 3) := by decide +kernel
theorem dX8_init_12 : decode cX8_init 12 = .ok (.aload_n 0, 1) := by decide +kernel
theorem dX8_init_13 : decode cX8_init 13 = .ok (.bipush 8, 2) := by decide +kernel
theorem dX8_init_15 : decode cX8_init 15 = .ok (.newarray .int, 2) := by decide +kernel
theorem dX8_init_17 : decode cX8_init 17 = .ok (.putfield 13, 3) := by decide +kernel
theorem dX8_init_20 : decode cX8_init 20 = .ok (.aload_n 0, 1) := by decide +kernel
theorem dX8_init_21 : decode cX8_init 21 = .ok (.bipush 8, 2) := by decide +kernel
theorem dX8_init_23 : decode cX8_init 23 = .ok (.newarray .int, 2) := by decide +kernel
theorem dX8_init_25 : decode cX8_init 25 = .ok (.putfield 16, 3) := by decide +kernel
theorem dX8_init_28 : decode cX8_init 28 = .ok (.aload_n 0, 1) := by decide +kernel
theorem dX8_init_29 : decode cX8_init 29 = .ok (.sipush 256, 3) := by decide +kernel
theorem dX8_init_32 : decode cX8_init 32 = .ok (.newarray .int, 2) := by decide +kernel
theorem dX8_init_34 : decode cX8_init 34 = .ok (.putfield 19, 3) := by decide +kernel
theorem dX8_init_37 : decode cX8_init 37 = .ok (.return_, 1) := by decide +kernel
theorem dX8_isEdge_0 : decode cX8_isEdge 0 = .ok (.iload_n 0, 1) := by decide +kernel
theorem dX8_isEdge_1 : decode cX8_isEdge 1 = .ok (.ifCond .lt 14, 3) := by decide +kernel
theorem dX8_isEdge_4 : decode cX8_isEdge 4 = .ok (.iload_n 0, 1) := by decide +kernel
theorem dX8_isEdge_5 : decode cX8_isEdge 5 = .ok (.sipush 9999, 3) := by decide +kernel
theorem dX8_isEdge_8 : decode cX8_isEdge 8 = .ok (.if_icmp .gt 7, 3) := by decide +kernel
theorem dX8_isEdge_11 : decode cX8_isEdge 11 = .ok (.iconst 1, 1) := by decide +kernel
theorem dX8_isEdge_12 : decode cX8_isEdge 12 = .ok (.goto 4, 3) := by decide +kernel
theorem dX8_isEdge_15 : decode cX8_isEdge 15 = .ok (.iconst 0, 1) := by decide +kernel
theorem dX8_isEdge_16 : decode cX8_isEdge 16 = .ok (.ireturn, 1) := by decide +kernel
theorem dX8_has_0 : decode cX8_has 0 = .ok (.iload_n 1, 1) := by decide +kernel
theorem dX8_has_1 : decode cX8_has 1 = .ok (.ifCond .lt 15, 3) := by decide +kernel
theorem dX8_has_4 : decode cX8_has 4 = .ok (.iload_n 1, 1) := by decide +kernel
theorem dX8_has_5 : decode cX8_has 5 = .ok (.aload_n 0, 1) := by decide +kernel
theorem dX8_has_6 : decode cX8_has 6 = .ok (.getfield 22, 3) := by decide +kernel
theorem dX8_has_9 : decode cX8_has 9 = .ok (.if_icmp .ge 7, 3) := by decide +kernel
theorem dX8_has_12 : decode cX8_has 12 = .ok (.iconst 1, 1) := by decide +kernel
theorem dX8_has_13 : decode cX8_has 13 = .ok (.goto 4, 3) := by decide +kernel
theorem dX8_has_16 : decode cX8_has 16 = .ok (.iconst 0, 1) := by decide +kernel
theorem dX8_has_17 : decode cX8_has 17 = .ok (.ireturn, 1) := by decide +kernel
theorem dX8_add_0 : decode cX8_add 0 = .ok (.aload_n 0, 1) := by decide +kernel
theorem dX8_add_1 : decode cX8_add 1 = .ok (.getfield 9, 3) := by decide +kernel
theorem dX8_add_4 : decode cX8_add 4 = .ok (.aload_n 0, 1) := by decide +kernel
theorem dX8_add_5 : decode cX8_add 5 = .ok (.getfield 22, 3) := by decide +kernel
theorem dX8_add_8 : decode cX8_add 8 = .ok (.iload_n 1, 1) := by decide +kernel
theorem dX8_add_9 : decode cX8_add 9 = .ok (.iastore, 1) := by decide +kernel
theorem dX8_add_10 : decode cX8_add 10 = .ok (.aload_n 0, 1) := by decide +kernel
theorem dX8_add_11 : decode cX8_add 11 = .ok (.getfield 13, 3) := by decide +kernel
theorem dX8_add_14 : decode cX8_add 14 = .ok (.aload_n 0, 1) := by decide +kernel
theorem dX8_add_15 : decode cX8_add 15 = .ok (.getfield 22, 3) := by decide +kernel
theorem dX8_add_18 : decode cX8_add 18 = .ok (.iload_n 2, 1) := by decide +kernel
theorem dX8_add_19 : decode cX8_add 19 = .ok (.iastore, 1) := by decide +kernel
theorem dX8_add_20 : decode cX8_add 20 = .ok (.aload_n 0, 1) := by decide +kernel
theorem dX8_add_21 : decode cX8_add 21 = .ok (.dup, 1) := by decide +kernel
theorem dX8_add_22 : decode cX8_add 22 = .ok (.getfield 22, 3) := by decide +kernel
theorem dX8_add_25 : decode cX8_add 25 = .ok (.dup_x1, 1) := by decide +kernel
theorem dX8_add_26 : decode cX8_add 26 = .ok (.iconst 1, 1) := by decide +kernel
theorem dX8_add_27 : decode cX8_add 27 = .ok (.iadd, 1) := by decide +kernel
theorem dX8_add_28 : decode cX8_add 28 = .ok (.putfield 22, 3) := by decide +kernel
theorem dX8_add_31 : decode cX8_add 31 = .ok (.ireturn, 1) := by decide +kernel
theorem dX8_fits_0 : decode cX8_fits 0 = .ok (.aload_n 0, 1) := by decide +kernel
theorem dX8_fits_1 : decode cX8_fits 1 = .ok (.getfield 13, 3) := by decide +kernel
theorem dX8_fits_4 : decode cX8_fits 4 = .ok (.iload_n 1, 1) := by decide +kernel
theorem dX8_fits_5 : decode cX8_fits 5 = .ok (.iaload, 1) := by decide +kernel
theorem dX8_fits_6 : decode cX8_fits 6 = .ok (.istore_n 3, 1) := by decide +kernel
theorem dX8_fits_7 : decode cX8_fits 7 = .ok (.aload_n 0, 1) := by decide +kernel
theorem dX8_fits_8 : decode cX8_fits 8 = .ok (.getfield 9, 3) := by decide +kernel
theorem dX8_fits_11 : decode cX8_fits 11 = .ok (.iload_n 2, 1) := by decide +kernel
theorem dX8_fits_12 : decode cX8_fits 12 = .ok (.iaload, 1) := by decide +kernel
theorem dX8_fits_13 : decode cX8_fits 13 = .ok (.istore 4, 2) := by decide +kernel
theorem dX8_fits_15 : decode cX8_fits 15 = .ok (.iconst 0, 1) := by decide +kernel
theorem dX8_fits_16 : decode cX8_fits 16 = .ok (.istore 5, 2) := by decide +kernel
theorem dX8_fits_18 : decode cX8_fits 18 = .ok (.iconst 0, 1) := by decide +kernel
theorem dX8_fits_19 : decode cX8_fits 19 = .ok (.istore 6, 2) := by decide +kernel
theorem dX8_fits_21 : decode cX8_fits 21 = .ok (.iload 6, 2) := by decide +kernel
theorem dX8_fits_23 : decode cX8_fits 23 = .ok (.iconst 4, 1) := by decide +kernel
theorem dX8_fits_24 : decode cX8_fits 24 = .ok (.if_icmp .ge 39, 3) := by decide +kernel
theorem dX8_fits_27 : decode cX8_fits 27 = .ok (.iload_n 3, 1) := by decide +kernel
theorem dX8_fits_28 : decode cX8_fits 28 = .ok (.bipush 10, 2) := by decide +kernel
theorem dX8_fits_30 : decode cX8_fits 30 = .ok (.irem, 1) := by decide +kernel
theorem dX8_fits_31 : decode cX8_fits 31 = .ok (.iload 4, 2) := by decide +kernel
theorem dX8_fits_33 : decode cX8_fits 33 = .ok (.bipush 10, 2) := by decide +kernel
theorem dX8_fits_35 : decode cX8_fits 35 = .ok (.irem, 1) := by decide +kernel
theorem dX8_fits_36 : decode cX8_fits 36 = .ok (.iadd, 1) := by decide +kernel
theorem dX8_fits_37 : decode cX8_fits 37 = .ok (.bipush 9, 2) := by decide +kernel
theorem dX8_fits_39 : decode cX8_fits 39 = .ok (.if_icmp .eq 6, 3) := by decide +kernel
theorem dX8_fits_42 : decode cX8_fits 42 = .ok (.iinc 5 1, 3) := by decide +kernel
theorem dX8_fits_45 : decode cX8_fits 45 = .ok (.iload_n 3, 1) := by decide +kernel
theorem dX8_fits_46 : decode cX8_fits 46 = .ok (.bipush 10, 2) := by decide +kernel
theorem dX8_fits_48 : decode cX8_fits 48 = .ok (.idiv, 1) := by decide +kernel
theorem dX8_fits_49 : decode cX8_fits 49 = .ok (.istore_n 3, 1) := by decide +kernel
theorem dX8_fits_50 : decode cX8_fits 50 = .ok (.iload 4, 2) := by decide +kernel
theorem dX8_fits_52 : decode cX8_fits 52 = .ok (.bipush 10, 2) := by decide +kernel
theorem dX8_fits_54 : decode cX8_fits 54 = .ok (.idiv, 1) := by decide +kernel
theorem dX8_fits_55 : decode cX8_fits 55 = .ok (.istore 4, 2) := by decide +kernel
theorem dX8_fits_57 : decode cX8_fits 57 = .ok (.iinc 6 1, 3) := by decide +kernel
theorem dX8_fits_60 : decode cX8_fits 60 = .ok (.goto (-39), 3) := by decide +kernel
theorem dX8_fits_63 : decode cX8_fits 63 = .ok (.iload 5, 2) := by decide +kernel
theorem dX8_fits_65 : decode cX8_fits 65 = .ok (.aload_n 0, 1) := by decide +kernel
theorem dX8_fits_66 : decode cX8_fits 66 = .ok (.getfield 26, 3) := by decide +kernel
theorem dX8_fits_69 : decode cX8_fits 69 = .ok (.if_icmp .gt 7, 3) := by decide +kernel
theorem dX8_fits_72 : decode cX8_fits 72 = .ok (.iconst 1, 1) := by decide +kernel
theorem dX8_fits_73 : decode cX8_fits 73 = .ok (.goto 4, 3) := by decide +kernel
theorem dX8_fits_76 : decode cX8_fits 76 = .ok (.iconst 0, 1) := by decide +kernel
theorem dX8_fits_77 : decode cX8_fits 77 = .ok (.ireturn, 1) := by decide +kernel
theorem dX8_inRow_0 : decode cX8_inRow 0 = .ok (.aload_n 0, 1) := by decide +kernel
theorem dX8_inRow_1 : decode cX8_inRow 1 = .ok (.getfield 29, 3) := by decide +kernel
theorem dX8_inRow_4 : decode cX8_inRow 4 = .ok (.iconst 3, 1) := by decide +kernel
theorem dX8_inRow_5 : decode cX8_inRow 5 = .ok (.iload_n 2, 1) := by decide +kernel
theorem dX8_inRow_6 : decode cX8_inRow 6 = .ok (.iconst 1, 1) := by decide +kernel
theorem dX8_inRow_7 : decode cX8_inRow 7 = .ok (.isub, 1) := by decide +kernel
theorem dX8_inRow_8 : decode cX8_inRow 8 = .ok (.iload_n 1, 1) := by decide +kernel
theorem dX8_inRow_9 : decode cX8_inRow 9 = .ok (.isub, 1) := by decide +kernel
theorem dX8_inRow_10 : decode cX8_inRow 10 = .ok (.imul, 1) := by decide +kernel
theorem dX8_inRow_11 : decode cX8_inRow 11 = .ok (.ishr, 1) := by decide +kernel
theorem dX8_inRow_12 : decode cX8_inRow 12 = .ok (.bipush 7, 2) := by decide +kernel
theorem dX8_inRow_14 : decode cX8_inRow 14 = .ok (.iand, 1) := by decide +kernel
theorem dX8_inRow_15 : decode cX8_inRow 15 = .ok (.ireturn, 1) := by decide +kernel
theorem dX8_findRow_0 : decode cX8_findRow 0 = .ok (.aload_n 0, 1) := by decide +kernel
theorem dX8_findRow_1 : decode cX8_findRow 1 = .ok (.invokevirtual 32, 3) := by decide +kernel
theorem dX8_findRow_4 : decode cX8_findRow 4 = .ok (.aload_n 0, 1) := by decide +kernel
theorem dX8_findRow_5 : decode cX8_findRow 5 = .ok (.invokevirtual 35, 3) := by decide +kernel
theorem dX8_findRow_8 : decode cX8_findRow 8 = .ok (.istore_n 1, 1) := by decide +kernel
theorem dX8_findRow_9 : decode cX8_findRow 9 = .ok (.aload_n 0, 1) := by decide +kernel
theorem dX8_findRow_10 : decode cX8_findRow 10 = .ok (.iconst 0, 1) := by decide +kernel
theorem dX8_findRow_11 : decode cX8_findRow 11 = .ok (.putfield 29, 3) := by decide +kernel
theorem dX8_findRow_14 : decode cX8_findRow 14 = .ok (.iconst 1, 1) := by decide +kernel
theorem dX8_findRow_15 : decode cX8_findRow 15 = .ok (.istore_n 2, 1) := by decide +kernel
theorem dX8_findRow_16 : decode cX8_findRow 16 = .ok (.iconst 1, 1) := by decide +kernel
theorem dX8_findRow_17 : decode cX8_findRow 17 = .ok (.istore_n 3, 1) := by decide +kernel
theorem dX8_findRow_18 : decode cX8_findRow 18 = .ok (.iload_n 3, 1) := by decide +kernel
theorem dX8_findRow_19 : decode cX8_findRow 19 = .ok (.iconst 1, 1) := by decide +kernel
theorem dX8_findRow_20 : decode cX8_findRow 20 = .ok (.aload_n 0, 1) := by decide +kernel
theorem dX8_findRow_21 : decode cX8_findRow 21 = .ok (.getfield 22, 3) := by decide +kernel
theorem dX8_findRow_24 : decode cX8_findRow 24 = .ok (.ishl, 1) := by decide +kernel
theorem dX8_findRow_25 : decode cX8_findRow 25 = .ok (.if_icmp .ge 57, 3) := by decide +kernel
theorem dX8_findRow_28 : decode cX8_findRow 28 = .ok (.aload_n 0, 1) := by decide +kernel
theorem dX8_findRow_29 : decode cX8_findRow 29 = .ok (.getfield 19, 3) := by decide +kernel
theorem dX8_findRow_32 : decode cX8_findRow 32 = .ok (.iload_n 3, 1) := by decide +kernel
theorem dX8_findRow_33 : decode cX8_findRow 33 = .ok (.iaload, 1) := by decide +kernel
theorem dX8_findRow_34 : decode cX8_findRow 34 = .ok (.ifCond .eq 42, 3) := by decide +kernel
theorem dX8_findRow_37 : decode cX8_findRow 37 = .ok (.iload_n 3, 1) := by decide +kernel
theorem dX8_findRow_38 : decode cX8_findRow 38 = .ok (.invokestatic 39, 3) := by decide +kernel
theorem dX8_findRow_41 : decode cX8_findRow 41 = .ok (.iload_n 1, 1) := by decide +kernel
theorem dX8_findRow_42 : decode cX8_findRow 42 = .ok (.if_icmp .eq 6, 3) := by decide +kernel
theorem dX8_findRow_45 : decode cX8_findRow 45 = .ok (.goto 31, 3) := by decide +kernel
theorem dX8_findRow_48 : decode cX8_findRow 48 = .ok (.aload_n 0, 1) := by decide +kernel
theorem dX8_findRow_49 : decode cX8_findRow 49 = .ok (.iload_n 3, 1) := by decide +kernel
theorem dX8_findRow_50 : decode cX8_findRow 50 = .ok (.invokevirtual 45, 3) := by decide +kernel
theorem dX8_findRow_53 : decode cX8_findRow 53 = .ok (.istore 4, 2) := by decide +kernel
theorem dX8_findRow_55 : decode cX8_findRow 55 = .ok (.iload_n 2, 1) := by decide +kernel
theorem dX8_findRow_56 : decode cX8_findRow 56 = .ok (.ifCond .ne 12, 3) := by decide +kernel
theorem dX8_findRow_59 : decode cX8_findRow 59 = .ok (.iload 4, 2) := by decide +kernel
theorem dX8_findRow_61 : decode cX8_findRow 61 = .ok (.aload_n 0, 1) := by decide +kernel
theorem dX8_findRow_62 : decode cX8_findRow 62 = .ok (.getfield 29, 3) := by decide +kernel
theorem dX8_findRow_65 : decode cX8_findRow 65 = .ok (.if_icmp .ge 9, 3) := by decide +kernel
theorem dX8_findRow_68 : decode cX8_findRow 68 = .ok (.aload_n 0, 1) := by decide +kernel
theorem dX8_findRow_69 : decode cX8_findRow 69 = .ok (.iload 4, 2) := by decide +kernel
theorem dX8_findRow_71 : decode cX8_findRow 71 = .ok (.putfield 29, 3) := by decide +kernel
theorem dX8_findRow_74 : decode cX8_findRow 74 = .ok (.iconst 0, 1) := by decide +kernel
theorem dX8_findRow_75 : decode cX8_findRow 75 = .ok (.istore_n 2, 1) := by decide +kernel
theorem dX8_findRow_76 : decode cX8_findRow 76 = .ok (.iinc 3 1, 3) := by decide +kernel
theorem dX8_findRow_79 : decode cX8_findRow 79 = .ok (.goto (-61), 3) := by decide +kernel
theorem dX8_findRow_82 : decode cX8_findRow 82 = .ok (.iload_n 1, 1) := by decide +kernel
theorem dX8_findRow_83 : decode cX8_findRow 83 = .ok (.ireturn, 1) := by decide +kernel
theorem dX8_findFollowers_0 : decode cX8_findFollowers 0 = .ok (.iconst 0, 1) := by decide +kernel
theorem dX8_findFollowers_1 : decode cX8_findFollowers 1 = .ok (.istore_n 1, 1) := by decide +kernel
theorem dX8_findFollowers_2 : decode cX8_findFollowers 2 = .ok (.iload_n 1, 1) := by decide +kernel
theorem dX8_findFollowers_3 : decode cX8_findFollowers 3 = .ok (.aload_n 0, 1) := by decide +kernel
theorem dX8_findFollowers_4 : decode cX8_findFollowers 4 = .ok (.getfield 22, 3) := by decide +kernel
theorem dX8_findFollowers_7 : decode cX8_findFollowers 7 = .ok (.if_icmp .ge 58, 3) := by decide +kernel
theorem dX8_findFollowers_10 : decode cX8_findFollowers 10 = .ok (.aload_n 0, 1) := by decide +kernel
theorem dX8_findFollowers_11 : decode cX8_findFollowers 11 = .ok (.getfield 16, 3) := by decide +kernel
theorem dX8_findFollowers_14 : decode cX8_findFollowers 14 = .ok (.iload_n 1, 1) := by decide +kernel
theorem dX8_findFollowers_15 : decode cX8_findFollowers 15 = .ok (.iconst 0, 1) := by decide +kernel
theorem dX8_findFollowers_16 : decode cX8_findFollowers 16 = .ok (.iastore, 1) := by decide +kernel
theorem dX8_findFollowers_17 : decode cX8_findFollowers 17 = .ok (.iconst 0, 1) := by decide +kernel
theorem dX8_findFollowers_18 : decode cX8_findFollowers 18 = .ok (.istore_n 2, 1) := by decide +kernel
theorem dX8_findFollowers_19 : decode cX8_findFollowers 19 = .ok (.iload_n 2, 1) := by decide +kernel
theorem dX8_findFollowers_20 : decode cX8_findFollowers 20 = .ok (.aload_n 0, 1) := by decide +kernel
theorem dX8_findFollowers_21 : decode cX8_findFollowers 21 = .ok (.getfield 22, 3) := by decide +kernel
theorem dX8_findFollowers_24 : decode cX8_findFollowers 24 = .ok (.if_icmp .ge 35, 3) := by decide +kernel
theorem dX8_findFollowers_27 : decode cX8_findFollowers 27 = .ok (.iload_n 2, 1) := by decide +kernel
theorem dX8_findFollowers_28 : decode cX8_findFollowers 28 = .ok (.iload_n 1, 1) := by decide +kernel
theorem dX8_findFollowers_29 : decode cX8_findFollowers 29 = .ok (.if_icmp .eq 24, 3) := by decide +kernel
theorem dX8_findFollowers_32 : decode cX8_findFollowers 32 = .ok (.aload_n 0, 1) := by decide +kernel
theorem dX8_findFollowers_33 : decode cX8_findFollowers 33 = .ok (.iload_n 1, 1) := by decide +kernel
theorem dX8_findFollowers_34 : decode cX8_findFollowers 34 = .ok (.iload_n 2, 1) := by decide +kernel
theorem dX8_findFollowers_35 : decode cX8_findFollowers 35 = .ok (.invokevirtual 48, 3) := by decide +kernel
theorem dX8_findFollowers_38 : decode cX8_findFollowers 38 = .ok (.ifCond .eq 15, 3) := by decide +kernel
theorem dX8_findFollowers_41 : decode cX8_findFollowers 41 = .ok (.aload_n 0, 1) := by decide +kernel
theorem dX8_findFollowers_42 : decode cX8_findFollowers 42 = .ok (.getfield 16, 3) := by decide +kernel
theorem dX8_findFollowers_45 : decode cX8_findFollowers 45 = .ok (.iload_n 1, 1) := by decide +kernel
theorem dX8_findFollowers_46 : decode cX8_findFollowers 46 = .ok (.dup2, 1) := by decide +kernel
theorem dX8_findFollowers_47 : decode cX8_findFollowers 47 = .ok (.iaload, 1) := by decide +kernel
theorem dX8_findFollowers_48 : decode cX8_findFollowers 48 = .ok (.iconst 1, 1) := by decide +kernel
theorem dX8_findFollowers_49 : decode cX8_findFollowers 49 = .ok (.iload_n 2, 1) := by decide +kernel
theorem dX8_findFollowers_50 : decode cX8_findFollowers 50 = .ok (.ishl, 1) := by decide +kernel
theorem dX8_findFollowers_51 : decode cX8_findFollowers 51 = .ok (.ior, 1) := by decide +kernel
theorem dX8_findFollowers_52 : decode cX8_findFollowers 52 = .ok (.iastore, 1) := by decide +kernel
theorem dX8_findFollowers_53 : decode cX8_findFollowers 53 = .ok (.iinc 2 1, 3) := by decide +kernel
theorem dX8_findFollowers_56 : decode cX8_findFollowers 56 = .ok (.goto (-37), 3) := by decide +kernel
theorem dX8_findFollowers_59 : decode cX8_findFollowers 59 = .ok (.iinc 1 1, 3) := by decide +kernel
theorem dX8_findFollowers_62 : decode cX8_findFollowers 62 = .ok (.goto (-60), 3) := by decide +kernel
theorem dX8_findFollowers_65 : decode cX8_findFollowers 65 = .ok (.return_, 1) := by decide +kernel
theorem dX8_findStarts_0 : decode cX8_findStarts 0 = .ok (.iconst 0, 1) := by decide +kernel
theorem dX8_findStarts_1 : decode cX8_findStarts 1 = .ok (.istore_n 1, 1) := by decide +kernel
theorem dX8_findStarts_2 : decode cX8_findStarts 2 = .ok (.iconst 1, 1) := by decide +kernel
theorem dX8_findStarts_3 : decode cX8_findStarts 3 = .ok (.istore_n 2, 1) := by decide +kernel
theorem dX8_findStarts_4 : decode cX8_findStarts 4 = .ok (.iload_n 2, 1) := by decide +kernel
theorem dX8_findStarts_5 : decode cX8_findStarts 5 = .ok (.iconst 1, 1) := by decide +kernel
theorem dX8_findStarts_6 : decode cX8_findStarts 6 = .ok (.aload_n 0, 1) := by decide +kernel
theorem dX8_findStarts_7 : decode cX8_findStarts 7 = .ok (.getfield 22, 3) := by decide +kernel
theorem dX8_findStarts_10 : decode cX8_findStarts 10 = .ok (.ishl, 1) := by decide +kernel
theorem dX8_findStarts_11 : decode cX8_findStarts 11 = .ok (.if_icmp .ge 110, 3) := by decide +kernel
theorem dX8_findStarts_14 : decode cX8_findStarts 14 = .ok (.iconst 0, 1) := by decide +kernel
theorem dX8_findStarts_15 : decode cX8_findStarts 15 = .ok (.istore_n 3, 1) := by decide +kernel
theorem dX8_findStarts_16 : decode cX8_findStarts 16 = .ok (.iconst 0, 1) := by decide +kernel
theorem dX8_findStarts_17 : decode cX8_findStarts 17 = .ok (.istore 4, 2) := by decide +kernel
theorem dX8_findStarts_19 : decode cX8_findStarts 19 = .ok (.iload 4, 2) := by decide +kernel
theorem dX8_findStarts_21 : decode cX8_findStarts 21 = .ok (.aload_n 0, 1) := by decide +kernel
theorem dX8_findStarts_22 : decode cX8_findStarts 22 = .ok (.getfield 22, 3) := by decide +kernel
theorem dX8_findStarts_25 : decode cX8_findStarts 25 = .ok (.if_icmp .ge 70, 3) := by decide +kernel
theorem dX8_findStarts_28 : decode cX8_findStarts 28 = .ok (.iload_n 2, 1) := by decide +kernel
theorem dX8_findStarts_29 : decode cX8_findStarts 29 = .ok (.iconst 1, 1) := by decide +kernel
theorem dX8_findStarts_30 : decode cX8_findStarts 30 = .ok (.iload 4, 2) := by decide +kernel
theorem dX8_findStarts_32 : decode cX8_findStarts 32 = .ok (.ishl, 1) := by decide +kernel
theorem dX8_findStarts_33 : decode cX8_findStarts 33 = .ok (.iconst (-1), 1) := by decide +kernel
theorem dX8_findStarts_34 : decode cX8_findStarts 34 = .ok (.ixor, 1) := by decide +kernel
theorem dX8_findStarts_35 : decode cX8_findStarts 35 = .ok (.iand, 1) := by decide +kernel
theorem dX8_findStarts_36 : decode cX8_findStarts 36 = .ok (.istore 5, 2) := by decide +kernel
theorem dX8_findStarts_38 : decode cX8_findStarts 38 = .ok (.iload 5, 2) := by decide +kernel
theorem dX8_findStarts_40 : decode cX8_findStarts 40 = .ok (.ifCond .eq 21, 3) := by decide +kernel
theorem dX8_findStarts_43 : decode cX8_findStarts 43 = .ok (.aload_n 0, 1) := by decide +kernel
theorem dX8_findStarts_44 : decode cX8_findStarts 44 = .ok (.getfield 16, 3) := by decide +kernel
theorem dX8_findStarts_47 : decode cX8_findStarts 47 = .ok (.iload 4, 2) := by decide +kernel
theorem dX8_findStarts_49 : decode cX8_findStarts 49 = .ok (.iaload, 1) := by decide +kernel
theorem dX8_findStarts_50 : decode cX8_findStarts 50 = .ok (.aload_n 0, 1) := by decide +kernel
theorem dX8_findStarts_51 : decode cX8_findStarts 51 = .ok (.getfield 19, 3) := by decide +kernel
theorem dX8_findStarts_54 : decode cX8_findStarts 54 = .ok (.iload 5, 2) := by decide +kernel
theorem dX8_findStarts_56 : decode cX8_findStarts 56 = .ok (.iaload, 1) := by decide +kernel
theorem dX8_findStarts_57 : decode cX8_findStarts 57 = .ok (.iand, 1) := by decide +kernel
theorem dX8_findStarts_58 : decode cX8_findStarts 58 = .ok (.ifCond .eq 7, 3) := by decide +kernel
theorem dX8_findStarts_61 : decode cX8_findStarts 61 = .ok (.iconst 1, 1) := by decide +kernel
theorem dX8_findStarts_62 : decode cX8_findStarts 62 = .ok (.goto 4, 3) := by decide +kernel
theorem dX8_findStarts_65 : decode cX8_findStarts 65 = .ok (.iconst 0, 1) := by decide +kernel
theorem dX8_findStarts_66 : decode cX8_findStarts 66 = .ok (.istore 6, 2) := by decide +kernel
theorem dX8_findStarts_68 : decode cX8_findStarts 68 = .ok (.iload_n 2, 1) := by decide +kernel
theorem dX8_findStarts_69 : decode cX8_findStarts 69 = .ok (.iload 4, 2) := by decide +kernel
theorem dX8_findStarts_71 : decode cX8_findStarts 71 = .ok (.invokestatic 52, 3) := by decide +kernel
theorem dX8_findStarts_74 : decode cX8_findStarts 74 = .ok (.ifCond .eq 15, 3) := by decide +kernel
theorem dX8_findStarts_77 : decode cX8_findStarts 77 = .ok (.iload 6, 2) := by decide +kernel
theorem dX8_findStarts_79 : decode cX8_findStarts 79 = .ok (.ifCond .eq 10, 3) := by decide +kernel
theorem dX8_findStarts_82 : decode cX8_findStarts 82 = .ok (.iload_n 3, 1) := by decide +kernel
theorem dX8_findStarts_83 : decode cX8_findStarts 83 = .ok (.iconst 1, 1) := by decide +kernel
theorem dX8_findStarts_84 : decode cX8_findStarts 84 = .ok (.iload 4, 2) := by decide +kernel
theorem dX8_findStarts_86 : decode cX8_findStarts 86 = .ok (.ishl, 1) := by decide +kernel
theorem dX8_findStarts_87 : decode cX8_findStarts 87 = .ok (.ior, 1) := by decide +kernel
theorem dX8_findStarts_88 : decode cX8_findStarts 88 = .ok (.istore_n 3, 1) := by decide +kernel
theorem dX8_findStarts_89 : decode cX8_findStarts 89 = .ok (.iinc 4 1, 3) := by decide +kernel
theorem dX8_findStarts_92 : decode cX8_findStarts 92 = .ok (.goto (-73), 3) := by decide +kernel
theorem dX8_findStarts_95 : decode cX8_findStarts 95 = .ok (.aload_n 0, 1) := by decide +kernel
theorem dX8_findStarts_96 : decode cX8_findStarts 96 = .ok (.getfield 19, 3) := by decide +kernel
theorem dX8_findStarts_99 : decode cX8_findStarts 99 = .ok (.iload_n 2, 1) := by decide +kernel
theorem dX8_findStarts_100 : decode cX8_findStarts 100 = .ok (.iload_n 3, 1) := by decide +kernel
theorem dX8_findStarts_101 : decode cX8_findStarts 101 = .ok (.iastore, 1) := by decide +kernel
theorem dX8_findStarts_102 : decode cX8_findStarts 102 = .ok (.iload_n 3, 1) := by decide +kernel
theorem dX8_findStarts_103 : decode cX8_findStarts 103 = .ok (.ifCond .eq 12, 3) := by decide +kernel
theorem dX8_findStarts_106 : decode cX8_findStarts 106 = .ok (.iload_n 1, 1) := by decide +kernel
theorem dX8_findStarts_107 : decode cX8_findStarts 107 = .ok (.iload_n 2, 1) := by decide +kernel
theorem dX8_findStarts_108 : decode cX8_findStarts 108 = .ok (.invokestatic 39, 3) := by decide +kernel
theorem dX8_findStarts_111 : decode cX8_findStarts 111 = .ok (.invokestatic 57, 3) := by decide +kernel
theorem dX8_findStarts_114 : decode cX8_findStarts 114 = .ok (.istore_n 1, 1) := by decide +kernel
theorem dX8_findStarts_115 : decode cX8_findStarts 115 = .ok (.iinc 2 1, 3) := by decide +kernel
theorem dX8_findStarts_118 : decode cX8_findStarts 118 = .ok (.goto (-114), 3) := by decide +kernel
theorem dX8_findStarts_121 : decode cX8_findStarts 121 = .ok (.iload_n 1, 1) := by decide +kernel
theorem dX8_findStarts_122 : decode cX8_findStarts 122 = .ok (.ireturn, 1) := by decide +kernel
theorem dX8_leastOf_0 : decode cX8_leastOf 0 = .ok (.iload_n 1, 1) := by decide +kernel
theorem dX8_leastOf_1 : decode cX8_leastOf 1 = .ok (.istore_n 2, 1) := by decide +kernel
theorem dX8_leastOf_2 : decode cX8_leastOf 2 = .ok (.aload_n 0, 1) := by decide +kernel
theorem dX8_leastOf_3 : decode cX8_leastOf 3 = .ok (.getfield 19, 3) := by decide +kernel
theorem dX8_leastOf_6 : decode cX8_leastOf 6 = .ok (.iload_n 1, 1) := by decide +kernel
theorem dX8_leastOf_7 : decode cX8_leastOf 7 = .ok (.iaload, 1) := by decide +kernel
theorem dX8_leastOf_8 : decode cX8_leastOf 8 = .ok (.istore_n 3, 1) := by decide +kernel
theorem dX8_leastOf_9 : decode cX8_leastOf 9 = .ok (.iconst 0, 1) := by decide +kernel
theorem dX8_leastOf_10 : decode cX8_leastOf 10 = .ok (.istore 4, 2) := by decide +kernel
theorem dX8_leastOf_12 : decode cX8_leastOf 12 = .ok (.iconst 0, 1) := by decide +kernel
theorem dX8_leastOf_13 : decode cX8_leastOf 13 = .ok (.istore 5, 2) := by decide +kernel
theorem dX8_leastOf_15 : decode cX8_leastOf 15 = .ok (.iload 5, 2) := by decide +kernel
theorem dX8_leastOf_17 : decode cX8_leastOf 17 = .ok (.aload_n 0, 1) := by decide +kernel
theorem dX8_leastOf_18 : decode cX8_leastOf 18 = .ok (.getfield 22, 3) := by decide +kernel
theorem dX8_leastOf_21 : decode cX8_leastOf 21 = .ok (.if_icmp .ge 52, 3) := by decide +kernel
theorem dX8_leastOf_24 : decode cX8_leastOf 24 = .ok (.iload_n 3, 1) := by decide +kernel
theorem dX8_leastOf_25 : decode cX8_leastOf 25 = .ok (.ifCond .eq 48, 3) := by decide +kernel
theorem dX8_leastOf_28 : decode cX8_leastOf 28 = .ok (.iload_n 3, 1) := by decide +kernel
theorem dX8_leastOf_29 : decode cX8_leastOf 29 = .ok (.invokestatic 63, 3) := by decide +kernel
theorem dX8_leastOf_32 : decode cX8_leastOf 32 = .ok (.istore 6, 2) := by decide +kernel
theorem dX8_leastOf_34 : decode cX8_leastOf 34 = .ok (.iload 4, 2) := by decide +kernel
theorem dX8_leastOf_36 : decode cX8_leastOf 36 = .ok (.iconst 3, 1) := by decide +kernel
theorem dX8_leastOf_37 : decode cX8_leastOf 37 = .ok (.ishl, 1) := by decide +kernel
theorem dX8_leastOf_38 : decode cX8_leastOf 38 = .ok (.iload 6, 2) := by decide +kernel
theorem dX8_leastOf_40 : decode cX8_leastOf 40 = .ok (.ior, 1) := by decide +kernel
theorem dX8_leastOf_41 : decode cX8_leastOf 41 = .ok (.istore 4, 2) := by decide +kernel
theorem dX8_leastOf_43 : decode cX8_leastOf 43 = .ok (.iload_n 2, 1) := by decide +kernel
theorem dX8_leastOf_44 : decode cX8_leastOf 44 = .ok (.iconst 1, 1) := by decide +kernel
theorem dX8_leastOf_45 : decode cX8_leastOf 45 = .ok (.iload 6, 2) := by decide +kernel
theorem dX8_leastOf_47 : decode cX8_leastOf 47 = .ok (.ishl, 1) := by decide +kernel
theorem dX8_leastOf_48 : decode cX8_leastOf 48 = .ok (.iconst (-1), 1) := by decide +kernel
theorem dX8_leastOf_49 : decode cX8_leastOf 49 = .ok (.ixor, 1) := by decide +kernel
theorem dX8_leastOf_50 : decode cX8_leastOf 50 = .ok (.iand, 1) := by decide +kernel
theorem dX8_leastOf_51 : decode cX8_leastOf 51 = .ok (.istore_n 2, 1) := by decide +kernel
theorem dX8_leastOf_52 : decode cX8_leastOf 52 = .ok (.aload_n 0, 1) := by decide +kernel
theorem dX8_leastOf_53 : decode cX8_leastOf 53 = .ok (.getfield 16, 3) := by decide +kernel
theorem dX8_leastOf_56 : decode cX8_leastOf 56 = .ok (.iload 6, 2) := by decide +kernel
theorem dX8_leastOf_58 : decode cX8_leastOf 58 = .ok (.iaload, 1) := by decide +kernel
theorem dX8_leastOf_59 : decode cX8_leastOf 59 = .ok (.aload_n 0, 1) := by decide +kernel
theorem dX8_leastOf_60 : decode cX8_leastOf 60 = .ok (.getfield 19, 3) := by decide +kernel
theorem dX8_leastOf_63 : decode cX8_leastOf 63 = .ok (.iload_n 2, 1) := by decide +kernel
theorem dX8_leastOf_64 : decode cX8_leastOf 64 = .ok (.iaload, 1) := by decide +kernel
theorem dX8_leastOf_65 : decode cX8_leastOf 65 = .ok (.iand, 1) := by decide +kernel
theorem dX8_leastOf_66 : decode cX8_leastOf 66 = .ok (.istore_n 3, 1) := by decide +kernel
theorem dX8_leastOf_67 : decode cX8_leastOf 67 = .ok (.iinc 5 1, 3) := by decide +kernel
theorem dX8_leastOf_70 : decode cX8_leastOf 70 = .ok (.goto (-55), 3) := by decide +kernel
theorem dX8_leastOf_73 : decode cX8_leastOf 73 = .ok (.iload 4, 2) := by decide +kernel
theorem dX8_leastOf_75 : decode cX8_leastOf 75 = .ok (.ireturn, 1) := by decide +kernel
theorem dX9_init_0 : decode cX9_init 0 = .ok (.aload_n 0, 1) := by decide +kernel
theorem dX9_init_1 : decode cX9_init 1 = .ok (.invokespecial 1, 3) := by decide +kernel
theorem dX9_init_4 : decode cX9_init 4 = .ok (.aload_n 0, 1) := by decide +kernel
theorem dX9_init_5 : decode cX9_init 5 = .ok (.aload_n 1, 1) := by decide +kernel
theorem dX9_init_6 : decode cX9_init 6 = .ok (.putfield 7, 3) := by decide +kernel
theorem dX9_init_9 : decode cX9_init 9 = .ok (.aload_n 0, 1) := by decide +kernel
theorem dX9_init_10 : decode cX9_init 10 = .ok (.iload_n 2, 1) := by decide +kernel
theorem dX9_init_11 : decode cX9_init 11 = .ok (.putfield 13, 3) := by decide +kernel
theorem dX9_init_14 : decode cX9_init 14 = .ok (.return_, 1) := by decide +kernel
theorem dX10_init_0 : decode cX10_init 0 = .ok (.aload_n 0, 1) := by decide +kernel
theorem dX10_init_1 : decode cX10_init 1 = .ok (.invokespecial 3, 3) := by decide +kernel
theorem dX10_init_4 : decode cX10_init 4 = .ok (.aload_n 0, 1) := by decide +kernel
theorem dX10_init_5 : decode cX10_init 5 = .ok (.sipush 300, 3) := by decide +kernel
theorem dX10_init_8 : decode cX10_init 8 = .ok (.newarray .int, 2) := by decide +kernel
theorem dX10_init_10 : decode cX10_init 10 = .ok (.putfield 9, 3) := by decide +kernel
theorem dX10_init_13 : decode cX10_init 13 = .ok (.return_, 1) := by decide +kernel
theorem dX10_add_0 : decode cX10_add 0 = .ok (.iload_n 3, 1) := by decide +kernel
theorem dX10_add_1 : decode cX10_add 1 = .ok (.istore 5, 2) := by decide +kernel
theorem dX10_add_3 : decode cX10_add 3 = .ok (.iload 5, 2) := by decide +kernel
theorem dX10_add_5 : decode cX10_add 5 = .ok (.iload 4, 2) := by decide +kernel
theorem dX10_add_7 : decode cX10_add 7 = .ok (.if_icmp .gt 28, 3) := by decide +kernel
theorem dX10_add_10 : decode cX10_add 10 = .ok (.aload_n 0, 1) := by decide +kernel
theorem dX10_add_11 : decode cX10_add 11 = .ok (.getfield 9, 3) := by decide +kernel
theorem dX10_add_14 : decode cX10_add 14 = .ok (.iload 5, 2) := by decide +kernel
theorem dX10_add_16 : decode cX10_add 16 = .ok (.iconst 5, 1) := by decide +kernel
theorem dX10_add_17 : decode cX10_add 17 = .ok (.imul, 1) := by decide +kernel
theorem dX10_add_18 : decode cX10_add 18 = .ok (.iload_n 1, 1) := by decide +kernel
theorem dX10_add_19 : decode cX10_add 19 = .ok (.iadd, 1) := by decide +kernel
theorem dX10_add_20 : decode cX10_add 20 = .ok (.iconst 5, 1) := by decide +kernel
theorem dX10_add_21 : decode cX10_add 21 = .ok (.imul, 1) := by decide +kernel
theorem dX10_add_22 : decode cX10_add 22 = .ok (.iload_n 2, 1) := by decide +kernel
theorem dX10_add_23 : decode cX10_add 23 = .ok (.iadd, 1) := by decide +kernel
theorem dX10_add_24 : decode cX10_add 24 = .ok (.dup2, 1) := by decide +kernel
theorem dX10_add_25 : decode cX10_add 25 = .ok (.iaload, 1) := by decide +kernel
theorem dX10_add_26 : decode cX10_add 26 = .ok (.iconst 1, 1) := by decide +kernel
theorem dX10_add_27 : decode cX10_add 27 = .ok (.iadd, 1) := by decide +kernel
theorem dX10_add_28 : decode cX10_add 28 = .ok (.iastore, 1) := by decide +kernel
theorem dX10_add_29 : decode cX10_add 29 = .ok (.iinc 5 1, 3) := by decide +kernel
theorem dX10_add_32 : decode cX10_add 32 = .ok (.goto (-29), 3) := by decide +kernel
theorem dX10_add_35 : decode cX10_add 35 = .ok (.aload_n 0, 1) := by decide +kernel
theorem dX10_add_36 : decode cX10_add 36 = .ok (.dup, 1) := by decide +kernel
theorem dX10_add_37 : decode cX10_add 37 = .ok (.getfield 15, 3) := by decide +kernel
theorem dX10_add_40 : decode cX10_add 40 = .ok (.dup_x1, 1) := by decide +kernel
theorem dX10_add_41 : decode cX10_add 41 = .ok (.iconst 1, 1) := by decide +kernel
theorem dX10_add_42 : decode cX10_add 42 = .ok (.iadd, 1) := by decide +kernel
theorem dX10_add_43 : decode cX10_add 43 = .ok (.putfield 15, 3) := by decide +kernel
theorem dX10_add_46 : decode cX10_add 46 = .ok (.ireturn, 1) := by decide +kernel
theorem dX10_openFor_0 : decode cX10_openFor 0 = .ok (.aload_n 0, 1) := by decide +kernel
theorem dX10_openFor_1 : decode cX10_openFor 1 = .ok (.getfield 9, 3) := by decide +kernel
theorem dX10_openFor_4 : decode cX10_openFor 4 = .ok (.iload_n 3, 1) := by decide +kernel
theorem dX10_openFor_5 : decode cX10_openFor 5 = .ok (.iconst 5, 1) := by decide +kernel
theorem dX10_openFor_6 : decode cX10_openFor 6 = .ok (.imul, 1) := by decide +kernel
theorem dX10_openFor_7 : decode cX10_openFor 7 = .ok (.iload_n 1, 1) := by decide +kernel
theorem dX10_openFor_8 : decode cX10_openFor 8 = .ok (.iadd, 1) := by decide +kernel
theorem dX10_openFor_9 : decode cX10_openFor 9 = .ok (.iconst 5, 1) := by decide +kernel
theorem dX10_openFor_10 : decode cX10_openFor 10 = .ok (.imul, 1) := by decide +kernel
theorem dX10_openFor_11 : decode cX10_openFor 11 = .ok (.iload_n 2, 1) := by decide +kernel
theorem dX10_openFor_12 : decode cX10_openFor 12 = .ok (.iadd, 1) := by decide +kernel
theorem dX10_openFor_13 : decode cX10_openFor 13 = .ok (.iaload, 1) := by decide +kernel
theorem dX10_openFor_14 : decode cX10_openFor 14 = .ok (.ireturn, 1) := by decide +kernel
theorem dX10_lead_0 : decode cX10_lead 0 = .ok (.iload_n 1, 1) := by decide +kernel
theorem dX10_lead_1 : decode cX10_lead 1 = .ok (.iload_n 2, 1) := by decide +kernel
theorem dX10_lead_2 : decode cX10_lead 2 = .ok (.if_icmp .eq 13, 3) := by decide +kernel
theorem dX10_lead_5 : decode cX10_lead 5 = .ok (.aload_n 0, 1) := by decide +kernel
theorem dX10_lead_6 : decode cX10_lead 6 = .ok (.iload_n 1, 1) := by decide +kernel
theorem dX10_lead_7 : decode cX10_lead 7 = .ok (.iload_n 2, 1) := by decide +kernel
theorem dX10_lead_8 : decode cX10_lead 8 = .ok (.iload_n 3, 1) := by decide +kernel
theorem dX10_lead_9 : decode cX10_lead 9 = .ok (.invokevirtual 19, 3) := by decide +kernel
theorem dX10_lead_12 : decode cX10_lead 12 = .ok (.ifCond .le 7, 3) := by decide +kernel
theorem dX10_lead_15 : decode cX10_lead 15 = .ok (.iconst 1, 1) := by decide +kernel
theorem dX10_lead_16 : decode cX10_lead 16 = .ok (.goto 4, 3) := by decide +kernel
theorem dX10_lead_19 : decode cX10_lead 19 = .ok (.iconst 0, 1) := by decide +kernel
theorem dX10_lead_20 : decode cX10_lead 20 = .ok (.ireturn, 1) := by decide +kernel
theorem dX11_init_0 : decode cX11_init 0 = .ok (.aload_n 0, 1) := by decide +kernel
theorem dX11_init_1 : decode cX11_init 1 = .ok (.invokespecial 3, 3) := by decide +kernel
theorem dX11_init_4 : decode cX11_init 4 = .ok (.aload_n 0, 1) := by decide +kernel
theorem dX11_init_5 : decode cX11_init 5 = .ok (.iconst 2, 1) := by decide +kernel
theorem dX11_init_6 : decode cX11_init 6 = .ok (.iload_n 1, 1) := by decide +kernel
theorem dX11_init_7 : decode cX11_init 7 = .ok (.bipush 11, 2) := by decide +kernel
theorem dX11_init_9 : decode cX11_init 9 = .ok (.invokestatic 9, 3) := by decide +kernel
theorem dX11_init_12 : decode cX11_init 12 = .ok (.iadd, 1) := by decide +kernel
theorem dX11_init_13 : decode cX11_init 13 = .ok (.putfield 15, 3) := by decide +kernel
theorem dX11_init_16 : decode cX11_init 16 = .ok (.aload_n 0, 1) := by decide +kernel
theorem dX11_init_17 : decode cX11_init 17 = .ok (.new 19, 3) := by decide +kernel
theorem dX11_init_20 : decode cX11_init 20 = .ok (.dup, 1) := by decide +kernel
theorem dX11_init_21 : decode cX11_init 21 = .ok (.invokespecial 21, 3) := by decide +kernel
theorem dX11_init_24 : decode cX11_init 24 = .ok (.putfield 22, 3) := by decide +kernel
theorem dX11_init_27 : decode cX11_init 27 = .ok (.aload_n 0, 1) := by decide +kernel
theorem dX11_init_28 : decode cX11_init 28 = .ok (.new 26, 3) := by decide +kernel
theorem dX11_init_31 : decode cX11_init 31 = .ok (.dup, 1) := by decide +kernel
theorem dX11_init_32 : decode cX11_init 32 = .ok (.invokespecial 28, 3) := by decide +kernel
theorem dX11_init_35 : decode cX11_init 35 = .ok (.putfield 29, 3) := by decide +kernel
theorem dX11_init_38 : decode cX11_init 38 = .ok (.aload_n 0, 1) := by decide +kernel
theorem dX11_init_39 : decode cX11_init 39 = .ok (.new 33, 3) := by decide +kernel
theorem dX11_init_42 : decode cX11_init 42 = .ok (.dup, 1) := by decide +kernel
theorem dX11_init_43 : decode cX11_init 43 = .ok (.aload_n 0, 1) := by decide +kernel
theorem dX11_init_44 : decode cX11_init 44 = .ok (.getfield 15, 3) := by decide +kernel
theorem dX11_init_47 : decode cX11_init 47 = .ok (.aload_n 0, 1) := by decide +kernel
theorem dX11_init_48 : decode cX11_init 48 = .ok (.getfield 22, 3) := by decide +kernel
theorem dX11_init_51 : decode cX11_init 51 = .ok (.aload_n 0, 1) := by decide +kernel
theorem dX11_init_52 : decode cX11_init 52 = .ok (.getfield 29, 3) := by decide +kernel
theorem dX11_init_55 : decode cX11_init 55 = .ok (.invokespecial 35, 3) := by decide +kernel
theorem dX11_init_58 : decode cX11_init 58 = .ok (.putfield 38, 3) := by decide +kernel
theorem dX11_init_61 : decode cX11_init 61 = .ok (.aload_n 0, 1) := by decide +kernel
theorem dX11_init_62 : decode cX11_init 62 = .ok (.new 42, 3) := by decide +kernel
theorem dX11_init_65 : decode cX11_init 65 = .ok (.dup, 1) := by decide +kernel
theorem dX11_init_66 : decode cX11_init 66 = .ok (.invokespecial 44, 3) := by decide +kernel
theorem dX11_init_69 : decode cX11_init 69 = .ok (.putfield 45, 3) := by decide +kernel
theorem dX11_init_72 : decode cX11_init 72 = .ok (.aload_n 0, 1) := by decide +kernel
theorem dX11_init_73 : decode cX11_init 73 = .ok (.new 49, 3) := by decide +kernel
theorem dX11_init_76 : decode cX11_init 76 = .ok (.dup, 1) := by decide +kernel
theorem dX11_init_77 : decode cX11_init 77 = .ok (.aload_n 0, 1) := by decide +kernel
theorem dX11_init_78 : decode cX11_init 78 = .ok (.getfield 15, 3) := by decide +kernel
theorem dX11_init_81 : decode cX11_init 81 = .ok (.iconst 1, 1) := by decide +kernel
theorem dX11_init_82 : decode cX11_init 82 = .ok (.isub, 1) := by decide +kernel
theorem dX11_init_83 : decode cX11_init 83 = .ok (.aload_n 0, 1) := by decide +kernel
theorem dX11_init_84 : decode cX11_init 84 = .ok (.getfield 22, 3) := by decide +kernel
theorem dX11_init_87 : decode cX11_init 87 = .ok (.aload_n 0, 1) := by decide +kernel
theorem dX11_init_88 : decode cX11_init 88 = .ok (.getfield 29, 3) := by decide +kernel
theorem dX11_init_91 : decode cX11_init 91 = .ok (.invokespecial 51, 3) := by decide +kernel
theorem dX11_init_94 : decode cX11_init 94 = .ok (.putfield 52, 3) := by decide +kernel
theorem dX11_init_97 : decode cX11_init 97 = .ok (.aload_n 0, 1) := by decide +kernel
theorem dX11_init_98 : decode cX11_init 98 = .ok (.new 56, 3) := by decide +kernel
theorem dX11_init_101 : decode cX11_init 101 = .ok (.dup, 1) := by decide +kernel
theorem dX11_init_102 : decode cX11_init 102 = .ok (.aload_n 0, 1) := by decide +kernel
theorem dX11_init_103 : decode cX11_init 103 = .ok (.getfield 15, 3) := by decide +kernel
theorem dX11_init_106 : decode cX11_init 106 = .ok (.aload_n 0, 1) := by decide +kernel
theorem dX11_init_107 : decode cX11_init 107 = .ok (.getfield 38, 3) := by decide +kernel
theorem dX11_init_110 : decode cX11_init 110 = .ok (.aload_n 0, 1) := by decide +kernel
theorem dX11_init_111 : decode cX11_init 111 = .ok (.getfield 22, 3) := by decide +kernel
theorem dX11_init_114 : decode cX11_init 114 = .ok (.aload_n 0, 1) := by decide +kernel
theorem dX11_init_115 : decode cX11_init 115 = .ok (.getfield 52, 3) := by decide +kernel
theorem dX11_init_118 : decode cX11_init 118 = .ok (.invokespecial 58, 3) := by decide +kernel
theorem dX11_init_121 : decode cX11_init 121 = .ok (.putfield 61, 3) := by decide +kernel
theorem dX11_init_124 : decode cX11_init 124 = .ok (.aload_n 0, 1) := by decide +kernel
theorem dX11_init_125 : decode cX11_init 125 = .ok (.new 65, 3) := by decide +kernel
theorem dX11_init_128 : decode cX11_init 128 = .ok (.dup, 1) := by decide +kernel
theorem dX11_init_129 : decode cX11_init 129 = .ok (.aload_n 0, 1) := by decide +kernel
theorem dX11_init_130 : decode cX11_init 130 = .ok (.getfield 15, 3) := by decide +kernel
theorem dX11_init_133 : decode cX11_init 133 = .ok (.aload_n 0, 1) := by decide +kernel
theorem dX11_init_134 : decode cX11_init 134 = .ok (.getfield 38, 3) := by decide +kernel
theorem dX11_init_137 : decode cX11_init 137 = .ok (.invokespecial 67, 3) := by decide +kernel
theorem dX11_init_140 : decode cX11_init 140 = .ok (.putfield 70, 3) := by decide +kernel
theorem dX11_init_143 : decode cX11_init 143 = .ok (.aload_n 0, 1) := by decide +kernel
theorem dX11_init_144 : decode cX11_init 144 = .ok (.new 74, 3) := by decide +kernel
theorem dX11_init_147 : decode cX11_init 147 = .ok (.dup, 1) := by decide +kernel
theorem dX11_init_148 : decode cX11_init 148 = .ok (.invokespecial 76, 3) := by decide +kernel
theorem dX11_init_151 : decode cX11_init 151 = .ok (.putfield 77, 3) := by decide +kernel
theorem dX11_init_154 : decode cX11_init 154 = .ok (.aload_n 0, 1) := by decide +kernel
theorem dX11_init_155 : decode cX11_init 155 = .ok (.new 81, 3) := by decide +kernel
theorem dX11_init_158 : decode cX11_init 158 = .ok (.dup, 1) := by decide +kernel
theorem dX11_init_159 : decode cX11_init 159 = .ok (.invokespecial 83, 3) := by decide +kernel
theorem dX11_init_162 : decode cX11_init 162 = .ok (.putfield 84, 3) := by decide +kernel
theorem dX11_init_165 : decode cX11_init 165 = .ok (.aload_n 0, 1) := by decide +kernel
theorem dX11_init_166 : decode cX11_init 166 = .ok (.new 88, 3) := by decide +kernel
theorem dX11_init_169 : decode cX11_init 169 = .ok (.dup, 1) := by decide +kernel
theorem dX11_init_170 : decode cX11_init 170 = .ok (.invokespecial 90, 3) := by decide +kernel
theorem dX11_init_173 : decode cX11_init 173 = .ok (.putfield 91, 3) := by decide +kernel
theorem dX11_init_176 : decode cX11_init 176 = .ok (.return_, 1) := by decide +kernel
theorem dX11_way_0 : decode cX11_way 0 = .ok (.iload_n 1, 1) := by decide +kernel
theorem dX11_way_1 : decode cX11_way 1 = .ok (.invokestatic 95, 3) := by decide +kernel
theorem dX11_way_4 : decode cX11_way 4 = .ok (.ifCond .eq 15, 3) := by decide +kernel
theorem dX11_way_7 : decode cX11_way 7 = .ok (.iload_n 2, 1) := by decide +kernel
theorem dX11_way_8 : decode cX11_way 8 = .ok (.invokestatic 95, 3) := by decide +kernel
theorem dX11_way_11 : decode cX11_way 11 = .ok (.ifCond .eq 8, 3) := by decide +kernel
theorem dX11_way_14 : decode cX11_way 14 = .ok (.iload_n 1, 1) := by decide +kernel
theorem dX11_way_15 : decode cX11_way 15 = .ok (.iload_n 2, 1) := by decide +kernel
theorem dX11_way_16 : decode cX11_way 16 = .ok (.if_icmp .ne 6, 3) := by decide +kernel
theorem dX11_way_19 : decode cX11_way 19 = .ok (.bipush (-2), 2) := by decide +kernel
theorem dX11_way_21 : decode cX11_way 21 = .ok (.ireturn, 1) := by decide +kernel
theorem dX11_way_22 : decode cX11_way 22 = .ok (.aload_n 0, 1) := by decide +kernel
theorem dX11_way_23 : decode cX11_way 23 = .ok (.iload_n 3, 1) := by decide +kernel
theorem dX11_way_24 : decode cX11_way 24 = .ok (.invokevirtual 99, 3) := by decide +kernel
theorem dX11_way_27 : decode cX11_way 27 = .ok (.ifCond .eq 18, 3) := by decide +kernel
theorem dX11_way_30 : decode cX11_way 30 = .ok (.aload_n 0, 1) := by decide +kernel
theorem dX11_way_31 : decode cX11_way 31 = .ok (.iload 4, 2) := by decide +kernel
theorem dX11_way_33 : decode cX11_way 33 = .ok (.invokevirtual 99, 3) := by decide +kernel
theorem dX11_way_36 : decode cX11_way 36 = .ok (.ifCond .eq 9, 3) := by decide +kernel
theorem dX11_way_39 : decode cX11_way 39 = .ok (.iload 4, 2) := by decide +kernel
theorem dX11_way_41 : decode cX11_way 41 = .ok (.iload_n 3, 1) := by decide +kernel
theorem dX11_way_42 : decode cX11_way 42 = .ok (.if_icmp .ge 6, 3) := by decide +kernel
theorem dX11_way_45 : decode cX11_way 45 = .ok (.bipush (-2), 2) := by decide +kernel
theorem dX11_way_47 : decode cX11_way 47 = .ok (.ireturn, 1) := by decide +kernel
theorem dX11_way_48 : decode cX11_way 48 = .ok (.aload_n 0, 1) := by decide +kernel
theorem dX11_way_49 : decode cX11_way 49 = .ok (.getfield 22, 3) := by decide +kernel
theorem dX11_way_52 : decode cX11_way 52 = .ok (.getfield 102, 3) := by decide +kernel
theorem dX11_way_55 : decode cX11_way 55 = .ok (.bipush 20, 2) := by decide +kernel
theorem dX11_way_57 : decode cX11_way 57 = .ok (.if_icmp .ne 6, 3) := by decide +kernel
theorem dX11_way_60 : decode cX11_way 60 = .ok (.bipush (-4), 2) := by decide +kernel
theorem dX11_way_62 : decode cX11_way 62 = .ok (.ireturn, 1) := by decide +kernel
theorem dX11_way_63 : decode cX11_way 63 = .ok (.aload_n 0, 1) := by decide +kernel
theorem dX11_way_64 : decode cX11_way 64 = .ok (.getfield 22, 3) := by decide +kernel
theorem dX11_way_67 : decode cX11_way 67 = .ok (.iload_n 1, 1) := by decide +kernel
theorem dX11_way_68 : decode cX11_way 68 = .ok (.iload_n 2, 1) := by decide +kernel
theorem dX11_way_69 : decode cX11_way 69 = .ok (.iload_n 3, 1) := by decide +kernel
theorem dX11_way_70 : decode cX11_way 70 = .ok (.iload 4, 2) := by decide +kernel
theorem dX11_way_72 : decode cX11_way 72 = .ok (.invokevirtual 105, 3) := by decide +kernel
theorem dX11_way_75 : decode cX11_way 75 = .ok (.ireturn, 1) := by decide +kernel
theorem dX11_soil_0 : decode cX11_soil 0 = .ok (.iload_n 1, 1) := by decide +kernel
theorem dX11_soil_1 : decode cX11_soil 1 = .ok (.ifCond .lt 9, 3) := by decide +kernel
theorem dX11_soil_4 : decode cX11_soil 4 = .ok (.iload_n 1, 1) := by decide +kernel
theorem dX11_soil_5 : decode cX11_soil 5 = .ok (.bipush 31, 2) := by decide +kernel
theorem dX11_soil_7 : decode cX11_soil 7 = .ok (.if_icmp .le 6, 3) := by decide +kernel
theorem dX11_soil_10 : decode cX11_soil 10 = .ok (.bipush (-2), 2) := by decide +kernel
theorem dX11_soil_12 : decode cX11_soil 12 = .ok (.ireturn, 1) := by decide +kernel
theorem dX11_soil_13 : decode cX11_soil 13 = .ok (.aload_n 0, 1) := by decide +kernel
theorem dX11_soil_14 : decode cX11_soil 14 = .ok (.getfield 38, 3) := by decide +kernel
theorem dX11_soil_17 : decode cX11_soil 17 = .ok (.getfield 109, 3) := by decide +kernel
theorem dX11_soil_20 : decode cX11_soil 20 = .ok (.istore_n 2, 1) := by decide +kernel
theorem dX11_soil_21 : decode cX11_soil 21 = .ok (.aload_n 0, 1) := by decide +kernel
theorem dX11_soil_22 : decode cX11_soil 22 = .ok (.getfield 38, 3) := by decide +kernel
theorem dX11_soil_25 : decode cX11_soil 25 = .ok (.iload_n 1, 1) := by decide +kernel
theorem dX11_soil_26 : decode cX11_soil 26 = .ok (.putfield 109, 3) := by decide +kernel
theorem dX11_soil_29 : decode cX11_soil 29 = .ok (.iload_n 2, 1) := by decide +kernel
theorem dX11_soil_30 : decode cX11_soil 30 = .ok (.ireturn, 1) := by decide +kernel
theorem dX11_paper_0 : decode cX11_paper 0 = .ok (.iload_n 1, 1) := by decide +kernel
theorem dX11_paper_1 : decode cX11_paper 1 = .ok (.ifCond .lt 9, 3) := by decide +kernel
theorem dX11_paper_4 : decode cX11_paper 4 = .ok (.iload_n 1, 1) := by decide +kernel
theorem dX11_paper_5 : decode cX11_paper 5 = .ok (.bipush 6, 2) := by decide +kernel
theorem dX11_paper_7 : decode cX11_paper 7 = .ok (.if_icmp .lt 6, 3) := by decide +kernel
theorem dX11_paper_10 : decode cX11_paper 10 = .ok (.bipush (-2), 2) := by decide +kernel
theorem dX11_paper_12 : decode cX11_paper 12 = .ok (.ireturn, 1) := by decide +kernel
theorem dX11_paper_13 : decode cX11_paper 13 = .ok (.iload_n 2, 1) := by decide +kernel
theorem dX11_paper_14 : decode cX11_paper 14 = .ok (.invokestatic 95, 3) := by decide +kernel
theorem dX11_paper_17 : decode cX11_paper 17 = .ok (.ifCond .eq 19, 3) := by decide +kernel
theorem dX11_paper_20 : decode cX11_paper 20 = .ok (.iload_n 3, 1) := by decide +kernel
theorem dX11_paper_21 : decode cX11_paper 21 = .ok (.invokestatic 95, 3) := by decide +kernel
theorem dX11_paper_24 : decode cX11_paper 24 = .ok (.ifCond .eq 12, 3) := by decide +kernel
theorem dX11_paper_27 : decode cX11_paper 27 = .ok (.aload_n 0, 1) := by decide +kernel
theorem dX11_paper_28 : decode cX11_paper 28 = .ok (.iload 4, 2) := by decide +kernel
theorem dX11_paper_30 : decode cX11_paper 30 = .ok (.invokevirtual 112, 3) := by decide +kernel
theorem dX11_paper_33 : decode cX11_paper 33 = .ok (.ifCond .ne 6, 3) := by decide +kernel
theorem dX11_paper_36 : decode cX11_paper 36 = .ok (.bipush (-2), 2) := by decide +kernel
theorem dX11_paper_38 : decode cX11_paper 38 = .ok (.ireturn, 1) := by decide +kernel
theorem dX11_paper_39 : decode cX11_paper 39 = .ok (.aload_n 0, 1) := by decide +kernel
theorem dX11_paper_40 : decode cX11_paper 40 = .ok (.getfield 29, 3) := by decide +kernel
theorem dX11_paper_43 : decode cX11_paper 43 = .ok (.iload 5, 2) := by decide +kernel
theorem dX11_paper_45 : decode cX11_paper 45 = .ok (.invokevirtual 115, 3) := by decide +kernel
theorem dX11_paper_48 : decode cX11_paper 48 = .ok (.ifCond .ne 6, 3) := by decide +kernel
theorem dX11_paper_51 : decode cX11_paper 51 = .ok (.bipush (-2), 2) := by decide +kernel
theorem dX11_paper_53 : decode cX11_paper 53 = .ok (.ireturn, 1) := by decide +kernel
theorem dX11_paper_54 : decode cX11_paper 54 = .ok (.aload_n 0, 1) := by decide +kernel
theorem dX11_paper_55 : decode cX11_paper 55 = .ok (.getfield 29, 3) := by decide +kernel
theorem dX11_paper_58 : decode cX11_paper 58 = .ok (.getfield 118, 3) := by decide +kernel
theorem dX11_paper_61 : decode cX11_paper 61 = .ok (.bipush 16, 2) := by decide +kernel
theorem dX11_paper_63 : decode cX11_paper 63 = .ok (.if_icmp .ne 6, 3) := by decide +kernel
theorem dX11_paper_66 : decode cX11_paper 66 = .ok (.bipush (-4), 2) := by decide +kernel
theorem dX11_paper_68 : decode cX11_paper 68 = .ok (.ireturn, 1) := by decide +kernel
theorem dX11_paper_69 : decode cX11_paper 69 = .ok (.aload_n 0, 1) := by decide +kernel
theorem dX11_paper_70 : decode cX11_paper 70 = .ok (.getfield 29, 3) := by decide +kernel
theorem dX11_paper_73 : decode cX11_paper 73 = .ok (.iload_n 1, 1) := by decide +kernel
theorem dX11_paper_74 : decode cX11_paper 74 = .ok (.iload_n 2, 1) := by decide +kernel
theorem dX11_paper_75 : decode cX11_paper 75 = .ok (.iload_n 3, 1) := by decide +kernel
theorem dX11_paper_76 : decode cX11_paper 76 = .ok (.iload 4, 2) := by decide +kernel
theorem dX11_paper_78 : decode cX11_paper 78 = .ok (.iload 5, 2) := by decide +kernel
theorem dX11_paper_80 : decode cX11_paper 80 = .ok (.invokevirtual 119, 3) := by decide +kernel
theorem dX11_paper_83 : decode cX11_paper 83 = .ok (.ireturn, 1) := by decide +kernel
theorem dX11_paperTold_0 : decode cX11_paperTold 0 = .ok (.aload_n 0, 1) := by decide +kernel
theorem dX11_paperTold_1 : decode cX11_paperTold 1 = .ok (.getfield 29, 3) := by decide +kernel
theorem dX11_paperTold_4 : decode cX11_paperTold 4 = .ok (.iload_n 1, 1) := by decide +kernel
theorem dX11_paperTold_5 : decode cX11_paperTold 5 = .ok (.invokevirtual 122, 3) := by decide +kernel
theorem dX11_paperTold_8 : decode cX11_paperTold 8 = .ok (.ifCond .ne 6, 3) := by decide +kernel
theorem dX11_paperTold_11 : decode cX11_paperTold 11 = .ok (.bipush (-2), 2) := by decide +kernel
theorem dX11_paperTold_13 : decode cX11_paperTold 13 = .ok (.ireturn, 1) := by decide +kernel
theorem dX11_paperTold_14 : decode cX11_paperTold 14 = .ok (.iload_n 2, 1) := by decide +kernel
theorem dX11_paperTold_15 : decode cX11_paperTold 15 = .ok (.tableswitch 131 0 6 #[41, 51, 61, 71, 81, 91, 111], 41) := by decide +kernel
theorem dX11_paperTold_56 : decode cX11_paperTold 56 = .ok (.aload_n 0, 1) := by decide +kernel
theorem dX11_paperTold_57 : decode cX11_paperTold 57 = .ok (.getfield 29, 3) := by decide +kernel
theorem dX11_paperTold_60 : decode cX11_paperTold 60 = .ok (.getfield 125, 3) := by decide +kernel
theorem dX11_paperTold_63 : decode cX11_paperTold 63 = .ok (.iload_n 1, 1) := by decide +kernel
theorem dX11_paperTold_64 : decode cX11_paperTold 64 = .ok (.iaload, 1) := by decide +kernel
theorem dX11_paperTold_65 : decode cX11_paperTold 65 = .ok (.ireturn, 1) := by decide +kernel
theorem dX11_paperTold_66 : decode cX11_paperTold 66 = .ok (.aload_n 0, 1) := by decide +kernel
theorem dX11_paperTold_67 : decode cX11_paperTold 67 = .ok (.getfield 29, 3) := by decide +kernel
theorem dX11_paperTold_70 : decode cX11_paperTold 70 = .ok (.getfield 129, 3) := by decide +kernel
theorem dX11_paperTold_73 : decode cX11_paperTold 73 = .ok (.iload_n 1, 1) := by decide +kernel
theorem dX11_paperTold_74 : decode cX11_paperTold 74 = .ok (.iaload, 1) := by decide +kernel
theorem dX11_paperTold_75 : decode cX11_paperTold 75 = .ok (.ireturn, 1) := by decide +kernel
theorem dX11_paperTold_76 : decode cX11_paperTold 76 = .ok (.aload_n 0, 1) := by decide +kernel
theorem dX11_paperTold_77 : decode cX11_paperTold 77 = .ok (.getfield 29, 3) := by decide +kernel
theorem dX11_paperTold_80 : decode cX11_paperTold 80 = .ok (.getfield 132, 3) := by decide +kernel
theorem dX11_paperTold_83 : decode cX11_paperTold 83 = .ok (.iload_n 1, 1) := by decide +kernel
theorem dX11_paperTold_84 : decode cX11_paperTold 84 = .ok (.iaload, 1) := by decide +kernel
theorem dX11_paperTold_85 : decode cX11_paperTold 85 = .ok (.ireturn, 1) := by decide +kernel
theorem dX11_paperTold_86 : decode cX11_paperTold 86 = .ok (.aload_n 0, 1) := by decide +kernel
theorem dX11_paperTold_87 : decode cX11_paperTold 87 = .ok (.getfield 29, 3) := by decide +kernel
theorem dX11_paperTold_90 : decode cX11_paperTold 90 = .ok (.getfield 135, 3) := by decide +kernel
theorem dX11_paperTold_93 : decode cX11_paperTold 93 = .ok (.iload_n 1, 1) := by decide +kernel
theorem dX11_paperTold_94 : decode cX11_paperTold 94 = .ok (.iaload, 1) := by decide +kernel
theorem dX11_paperTold_95 : decode cX11_paperTold 95 = .ok (.ireturn, 1) := by decide +kernel
theorem dX11_paperTold_96 : decode cX11_paperTold 96 = .ok (.aload_n 0, 1) := by decide +kernel
theorem dX11_paperTold_97 : decode cX11_paperTold 97 = .ok (.getfield 29, 3) := by decide +kernel
theorem dX11_paperTold_100 : decode cX11_paperTold 100 = .ok (.getfield 138, 3) := by decide +kernel
theorem dX11_paperTold_103 : decode cX11_paperTold 103 = .ok (.iload_n 1, 1) := by decide +kernel
theorem dX11_paperTold_104 : decode cX11_paperTold 104 = .ok (.iaload, 1) := by decide +kernel
theorem dX11_paperTold_105 : decode cX11_paperTold 105 = .ok (.ireturn, 1) := by decide +kernel
theorem dX11_paperTold_106 : decode cX11_paperTold 106 = .ok (.aload_n 0, 1) := by decide +kernel
theorem dX11_paperTold_107 : decode cX11_paperTold 107 = .ok (.getfield 29, 3) := by decide +kernel
theorem dX11_paperTold_110 : decode cX11_paperTold 110 = .ok (.getfield 141, 3) := by decide +kernel
theorem dX11_paperTold_113 : decode cX11_paperTold 113 = .ok (.iload_n 1, 1) := by decide +kernel
theorem dX11_paperTold_114 : decode cX11_paperTold 114 = .ok (.invokestatic 144, 3) := by decide +kernel
theorem dX11_paperTold_117 : decode cX11_paperTold 117 = .ok (.ifCond .eq 7, 3) := by decide +kernel
theorem dX11_paperTold_120 : decode cX11_paperTold 120 = .ok (.iconst 1, 1) := by decide +kernel
theorem dX11_paperTold_121 : decode cX11_paperTold 121 = .ok (.goto 4, 3) := by decide +kernel
theorem dX11_paperTold_124 : decode cX11_paperTold 124 = .ok (.iconst 0, 1) := by decide +kernel
theorem dX11_paperTold_125 : decode cX11_paperTold 125 = .ok (.ireturn, 1) := by decide +kernel
theorem dX11_paperTold_126 : decode cX11_paperTold 126 = .ok (.aload_n 0, 1) := by decide +kernel
theorem dX11_paperTold_127 : decode cX11_paperTold 127 = .ok (.getfield 29, 3) := by decide +kernel
theorem dX11_paperTold_130 : decode cX11_paperTold 130 = .ok (.getfield 148, 3) := by decide +kernel
theorem dX11_paperTold_133 : decode cX11_paperTold 133 = .ok (.iload_n 1, 1) := by decide +kernel
theorem dX11_paperTold_134 : decode cX11_paperTold 134 = .ok (.invokestatic 144, 3) := by decide +kernel
theorem dX11_paperTold_137 : decode cX11_paperTold 137 = .ok (.ifCond .eq 7, 3) := by decide +kernel
theorem dX11_paperTold_140 : decode cX11_paperTold 140 = .ok (.iconst 1, 1) := by decide +kernel
theorem dX11_paperTold_141 : decode cX11_paperTold 141 = .ok (.goto 4, 3) := by decide +kernel
theorem dX11_paperTold_144 : decode cX11_paperTold 144 = .ok (.iconst 0, 1) := by decide +kernel
theorem dX11_paperTold_145 : decode cX11_paperTold 145 = .ok (.ireturn, 1) := by decide +kernel
theorem dX11_paperTold_146 : decode cX11_paperTold 146 = .ok (.bipush (-2), 2) := by decide +kernel
theorem dX11_paperTold_148 : decode cX11_paperTold 148 = .ok (.ireturn, 1) := by decide +kernel
theorem dX11_allows_0 : decode cX11_allows 0 = .ok (.aload_n 0, 1) := by decide +kernel
theorem dX11_allows_1 : decode cX11_allows 1 = .ok (.getfield 29, 3) := by decide +kernel
theorem dX11_allows_4 : decode cX11_allows 4 = .ok (.iload_n 1, 1) := by decide +kernel
theorem dX11_allows_5 : decode cX11_allows 5 = .ok (.invokevirtual 122, 3) := by decide +kernel
theorem dX11_allows_8 : decode cX11_allows 8 = .ok (.ifCond .eq 12, 3) := by decide +kernel
theorem dX11_allows_11 : decode cX11_allows 11 = .ok (.aload_n 0, 1) := by decide +kernel
theorem dX11_allows_12 : decode cX11_allows 12 = .ok (.iload_n 2, 1) := by decide +kernel
theorem dX11_allows_13 : decode cX11_allows 13 = .ok (.iload_n 3, 1) := by decide +kernel
theorem dX11_allows_14 : decode cX11_allows 14 = .ok (.invokevirtual 151, 3) := by decide +kernel
theorem dX11_allows_17 : decode cX11_allows 17 = .ok (.ifCond .ne 6, 3) := by decide +kernel
theorem dX11_allows_20 : decode cX11_allows 20 = .ok (.bipush (-2), 2) := by decide +kernel
theorem dX11_allows_22 : decode cX11_allows 22 = .ok (.ireturn, 1) := by decide +kernel
theorem dX11_allows_23 : decode cX11_allows 23 = .ok (.aload_n 0, 1) := by decide +kernel
theorem dX11_allows_24 : decode cX11_allows 24 = .ok (.getfield 29, 3) := by decide +kernel
theorem dX11_allows_27 : decode cX11_allows 27 = .ok (.iload_n 1, 1) := by decide +kernel
theorem dX11_allows_28 : decode cX11_allows 28 = .ok (.iload_n 3, 1) := by decide +kernel
theorem dX11_allows_29 : decode cX11_allows 29 = .ok (.invokevirtual 154, 3) := by decide +kernel
theorem dX11_allows_32 : decode cX11_allows 32 = .ok (.iload_n 2, 1) := by decide +kernel
theorem dX11_allows_33 : decode cX11_allows 33 = .ok (.invokestatic 144, 3) := by decide +kernel
theorem dX11_allows_36 : decode cX11_allows 36 = .ok (.ifCond .eq 7, 3) := by decide +kernel
theorem dX11_allows_39 : decode cX11_allows 39 = .ok (.iconst 1, 1) := by decide +kernel
theorem dX11_allows_40 : decode cX11_allows 40 = .ok (.goto 4, 3) := by decide +kernel
theorem dX11_allows_43 : decode cX11_allows 43 = .ok (.iconst 0, 1) := by decide +kernel
theorem dX11_allows_44 : decode cX11_allows 44 = .ok (.ireturn, 1) := by decide +kernel
theorem dX11_forge_0 : decode cX11_forge 0 = .ok (.aload_n 0, 1) := by decide +kernel
theorem dX11_forge_1 : decode cX11_forge 1 = .ok (.getfield 29, 3) := by decide +kernel
theorem dX11_forge_4 : decode cX11_forge 4 = .ok (.iload_n 1, 1) := by decide +kernel
theorem dX11_forge_5 : decode cX11_forge 5 = .ok (.invokevirtual 122, 3) := by decide +kernel
theorem dX11_forge_8 : decode cX11_forge 8 = .ok (.ifCond .eq 12, 3) := by decide +kernel
theorem dX11_forge_11 : decode cX11_forge 11 = .ok (.iload_n 2, 1) := by decide +kernel
theorem dX11_forge_12 : decode cX11_forge 12 = .ok (.ifCond .lt 8, 3) := by decide +kernel
theorem dX11_forge_15 : decode cX11_forge 15 = .ok (.iload_n 2, 1) := by decide +kernel
theorem dX11_forge_16 : decode cX11_forge 16 = .ok (.iconst 1, 1) := by decide +kernel
theorem dX11_forge_17 : decode cX11_forge 17 = .ok (.if_icmp .le 6, 3) := by decide +kernel
theorem dX11_forge_20 : decode cX11_forge 20 = .ok (.bipush (-2), 2) := by decide +kernel
theorem dX11_forge_22 : decode cX11_forge 22 = .ok (.ireturn, 1) := by decide +kernel
theorem dX11_forge_23 : decode cX11_forge 23 = .ok (.aload_n 0, 1) := by decide +kernel
theorem dX11_forge_24 : decode cX11_forge 24 = .ok (.getfield 29, 3) := by decide +kernel
theorem dX11_forge_27 : decode cX11_forge 27 = .ok (.iload_n 1, 1) := by decide +kernel
theorem dX11_forge_28 : decode cX11_forge 28 = .ok (.iload_n 2, 1) := by decide +kernel
theorem dX11_forge_29 : decode cX11_forge 29 = .ok (.iconst 1, 1) := by decide +kernel
theorem dX11_forge_30 : decode cX11_forge 30 = .ok (.if_icmp .ne 7, 3) := by decide +kernel
theorem dX11_forge_33 : decode cX11_forge 33 = .ok (.iconst 1, 1) := by decide +kernel
theorem dX11_forge_34 : decode cX11_forge 34 = .ok (.goto 4, 3) := by decide +kernel
theorem dX11_forge_37 : decode cX11_forge 37 = .ok (.iconst 0, 1) := by decide +kernel
theorem dX11_forge_38 : decode cX11_forge 38 = .ok (.invokevirtual 157, 3) := by decide +kernel
theorem dX11_forge_41 : decode cX11_forge 41 = .ok (.aload_n 0, 1) := by decide +kernel
theorem dX11_forge_42 : decode cX11_forge 42 = .ok (.getfield 29, 3) := by decide +kernel
theorem dX11_forge_45 : decode cX11_forge 45 = .ok (.invokevirtual 161, 3) := by decide +kernel
theorem dX11_forge_48 : decode cX11_forge 48 = .ok (.ireturn, 1) := by decide +kernel
theorem dX11_fall_0 : decode cX11_fall 0 = .ok (.aload_n 0, 1) := by decide +kernel
theorem dX11_fall_1 : decode cX11_fall 1 = .ok (.getfield 29, 3) := by decide +kernel
theorem dX11_fall_4 : decode cX11_fall 4 = .ok (.iload_n 1, 1) := by decide +kernel
theorem dX11_fall_5 : decode cX11_fall 5 = .ok (.invokevirtual 122, 3) := by decide +kernel
theorem dX11_fall_8 : decode cX11_fall 8 = .ok (.ifCond .ne 6, 3) := by decide +kernel
theorem dX11_fall_11 : decode cX11_fall 11 = .ok (.bipush (-2), 2) := by decide +kernel
theorem dX11_fall_13 : decode cX11_fall 13 = .ok (.ireturn, 1) := by decide +kernel
theorem dX11_fall_14 : decode cX11_fall 14 = .ok (.aload_n 0, 1) := by decide +kernel
theorem dX11_fall_15 : decode cX11_fall 15 = .ok (.getfield 29, 3) := by decide +kernel
theorem dX11_fall_18 : decode cX11_fall 18 = .ok (.iload_n 1, 1) := by decide +kernel
theorem dX11_fall_19 : decode cX11_fall 19 = .ok (.invokevirtual 165, 3) := by decide +kernel
theorem dX11_fall_22 : decode cX11_fall 22 = .ok (.ireturn, 1) := by decide +kernel
theorem dX11_histories_0 : decode cX11_histories 0 = .ok (.aload_n 0, 1) := by decide +kernel
theorem dX11_histories_1 : decode cX11_histories 1 = .ok (.getfield 38, 3) := by decide +kernel
theorem dX11_histories_4 : decode cX11_histories 4 = .ok (.invokevirtual 169, 3) := by decide +kernel
theorem dX11_histories_7 : decode cX11_histories 7 = .ok (.aload_n 0, 1) := by decide +kernel
theorem dX11_histories_8 : decode cX11_histories 8 = .ok (.getfield 38, 3) := by decide +kernel
theorem dX11_histories_11 : decode cX11_histories 11 = .ok (.invokevirtual 172, 3) := by decide +kernel
theorem dX11_histories_14 : decode cX11_histories 14 = .ok (.lreturn, 1) := by decide +kernel
theorem dX11_at_0 : decode cX11_at 0 = .ok (.aload_n 0, 1) := by decide +kernel
theorem dX11_at_1 : decode cX11_at 1 = .ok (.iload_n 1, 1) := by decide +kernel
theorem dX11_at_2 : decode cX11_at 2 = .ok (.iload_n 2, 1) := by decide +kernel
theorem dX11_at_3 : decode cX11_at 3 = .ok (.invokevirtual 151, 3) := by decide +kernel
theorem dX11_at_6 : decode cX11_at 6 = .ok (.ifCond .ne 7, 3) := by decide +kernel
theorem dX11_at_9 : decode cX11_at 9 = .ok (.ldc2_w 176, 3) := by decide +kernel
theorem dX11_at_12 : decode cX11_at 12 = .ok (.lreturn, 1) := by decide +kernel
theorem dX11_at_13 : decode cX11_at 13 = .ok (.aload_n 0, 1) := by decide +kernel
theorem dX11_at_14 : decode cX11_at 14 = .ok (.getfield 38, 3) := by decide +kernel
theorem dX11_at_17 : decode cX11_at 17 = .ok (.invokevirtual 169, 3) := by decide +kernel
theorem dX11_at_20 : decode cX11_at 20 = .ok (.aload_n 0, 1) := by decide +kernel
theorem dX11_at_21 : decode cX11_at 21 = .ok (.getfield 38, 3) := by decide +kernel
theorem dX11_at_24 : decode cX11_at 24 = .ok (.iload_n 1, 1) := by decide +kernel
theorem dX11_at_25 : decode cX11_at 25 = .ok (.iload_n 2, 1) := by decide +kernel
theorem dX11_at_26 : decode cX11_at 26 = .ok (.invokestatic 178, 3) := by decide +kernel
theorem dX11_at_29 : decode cX11_at 29 = .ok (.invokevirtual 181, 3) := by decide +kernel
theorem dX11_at_32 : decode cX11_at 32 = .ok (.lreturn, 1) := by decide +kernel
theorem dX11_both_0 : decode cX11_both 0 = .ok (.aload_n 0, 1) := by decide +kernel
theorem dX11_both_1 : decode cX11_both 1 = .ok (.iload_n 1, 1) := by decide +kernel
theorem dX11_both_2 : decode cX11_both 2 = .ok (.iload_n 2, 1) := by decide +kernel
theorem dX11_both_3 : decode cX11_both 3 = .ok (.invokevirtual 151, 3) := by decide +kernel
theorem dX11_both_6 : decode cX11_both 6 = .ok (.ifCond .eq 13, 3) := by decide +kernel
theorem dX11_both_9 : decode cX11_both 9 = .ok (.aload_n 0, 1) := by decide +kernel
theorem dX11_both_10 : decode cX11_both 10 = .ok (.iload_n 3, 1) := by decide +kernel
theorem dX11_both_11 : decode cX11_both 11 = .ok (.iload 4, 2) := by decide +kernel
theorem dX11_both_13 : decode cX11_both 13 = .ok (.invokevirtual 151, 3) := by decide +kernel
theorem dX11_both_16 : decode cX11_both 16 = .ok (.ifCond .ne 7, 3) := by decide +kernel
theorem dX11_both_19 : decode cX11_both 19 = .ok (.ldc2_w 176, 3) := by decide +kernel
theorem dX11_both_22 : decode cX11_both 22 = .ok (.lreturn, 1) := by decide +kernel
theorem dX11_both_23 : decode cX11_both 23 = .ok (.aload_n 0, 1) := by decide +kernel
theorem dX11_both_24 : decode cX11_both 24 = .ok (.getfield 38, 3) := by decide +kernel
theorem dX11_both_27 : decode cX11_both 27 = .ok (.invokevirtual 169, 3) := by decide +kernel
theorem dX11_both_30 : decode cX11_both 30 = .ok (.aload_n 0, 1) := by decide +kernel
theorem dX11_both_31 : decode cX11_both 31 = .ok (.getfield 38, 3) := by decide +kernel
theorem dX11_both_34 : decode cX11_both 34 = .ok (.iload_n 1, 1) := by decide +kernel
theorem dX11_both_35 : decode cX11_both 35 = .ok (.iload_n 2, 1) := by decide +kernel
theorem dX11_both_36 : decode cX11_both 36 = .ok (.invokevirtual 185, 3) := by decide +kernel
theorem dX11_both_39 : decode cX11_both 39 = .ok (.aload_n 0, 1) := by decide +kernel
theorem dX11_both_40 : decode cX11_both 40 = .ok (.getfield 38, 3) := by decide +kernel
theorem dX11_both_43 : decode cX11_both 43 = .ok (.getfield 189, 3) := by decide +kernel
theorem dX11_both_46 : decode cX11_both 46 = .ok (.iload_n 3, 1) := by decide +kernel
theorem dX11_both_47 : decode cX11_both 47 = .ok (.iload 4, 2) := by decide +kernel
theorem dX11_both_49 : decode cX11_both 49 = .ok (.invokestatic 178, 3) := by decide +kernel
theorem dX11_both_52 : decode cX11_both 52 = .ok (.laload, 1) := by decide +kernel
theorem dX11_both_53 : decode cX11_both 53 = .ok (.lreturn, 1) := by decide +kernel
theorem dX11_history_0 : decode cX11_history 0 = .ok (.iload_n 1, 1) := by decide +kernel
theorem dX11_history_1 : decode cX11_history 1 = .ok (.ifCond .lt 18, 3) := by decide +kernel
theorem dX11_history_4 : decode cX11_history 4 = .ok (.iload_n 1, 1) := by decide +kernel
theorem dX11_history_5 : decode cX11_history 5 = .ok (.sipush 10000, 3) := by decide +kernel
theorem dX11_history_8 : decode cX11_history 8 = .ok (.if_icmp .ge 11, 3) := by decide +kernel
theorem dX11_history_11 : decode cX11_history 11 = .ok (.aload_n 0, 1) := by decide +kernel
theorem dX11_history_12 : decode cX11_history 12 = .ok (.iload_n 2, 1) := by decide +kernel
theorem dX11_history_13 : decode cX11_history 13 = .ok (.invokevirtual 112, 3) := by decide +kernel
theorem dX11_history_16 : decode cX11_history 16 = .ok (.ifCond .ne 6, 3) := by decide +kernel
theorem dX11_history_19 : decode cX11_history 19 = .ok (.bipush (-2), 2) := by decide +kernel
theorem dX11_history_21 : decode cX11_history 21 = .ok (.ireturn, 1) := by decide +kernel
theorem dX11_history_22 : decode cX11_history 22 = .ok (.aload_n 0, 1) := by decide +kernel
theorem dX11_history_23 : decode cX11_history 23 = .ok (.getfield 38, 3) := by decide +kernel
theorem dX11_history_26 : decode cX11_history 26 = .ok (.invokevirtual 169, 3) := by decide +kernel
theorem dX11_history_29 : decode cX11_history 29 = .ok (.iload_n 1, 1) := by decide +kernel
theorem dX11_history_30 : decode cX11_history 30 = .ok (.i2l, 1) := by decide +kernel
theorem dX11_history_31 : decode cX11_history 31 = .ok (.aload_n 0, 1) := by decide +kernel
theorem dX11_history_32 : decode cX11_history 32 = .ok (.getfield 38, 3) := by decide +kernel
theorem dX11_history_35 : decode cX11_history 35 = .ok (.invokevirtual 172, 3) := by decide +kernel
theorem dX11_history_38 : decode cX11_history 38 = .ok (.lcmp, 1) := by decide +kernel
theorem dX11_history_39 : decode cX11_history 39 = .ok (.ifCond .lt 5, 3) := by decide +kernel
theorem dX11_history_42 : decode cX11_history 42 = .ok (.iconst (-1), 1) := by decide +kernel
theorem dX11_history_43 : decode cX11_history 43 = .ok (.ireturn, 1) := by decide +kernel
theorem dX11_history_44 : decode cX11_history 44 = .ok (.aload_n 0, 1) := by decide +kernel
theorem dX11_history_45 : decode cX11_history 45 = .ok (.getfield 38, 3) := by decide +kernel
theorem dX11_history_48 : decode cX11_history 48 = .ok (.iload_n 1, 1) := by decide +kernel
theorem dX11_history_49 : decode cX11_history 49 = .ok (.iload_n 2, 1) := by decide +kernel
theorem dX11_history_50 : decode cX11_history 50 = .ok (.invokevirtual 193, 3) := by decide +kernel
theorem dX11_history_53 : decode cX11_history 53 = .ok (.ireturn, 1) := by decide +kernel
theorem dX11_feed_0 : decode cX11_feed 0 = .ok (.iload_n 1, 1) := by decide +kernel
theorem dX11_feed_1 : decode cX11_feed 1 = .ok (.iconst 1, 1) := by decide +kernel
theorem dX11_feed_2 : decode cX11_feed 2 = .ok (.if_icmp .lt 9, 3) := by decide +kernel
theorem dX11_feed_5 : decode cX11_feed 5 = .ok (.iload_n 1, 1) := by decide +kernel
theorem dX11_feed_6 : decode cX11_feed 6 = .ok (.bipush 8, 2) := by decide +kernel
theorem dX11_feed_8 : decode cX11_feed 8 = .ok (.if_icmp .le 6, 3) := by decide +kernel
theorem dX11_feed_11 : decode cX11_feed 11 = .ok (.bipush (-2), 2) := by decide +kernel
theorem dX11_feed_13 : decode cX11_feed 13 = .ok (.ireturn, 1) := by decide +kernel
theorem dX11_feed_14 : decode cX11_feed 14 = .ok (.iload_n 1, 1) := by decide +kernel
theorem dX11_feed_15 : decode cX11_feed 15 = .ok (.sipush 160, 3) := by decide +kernel
theorem dX11_feed_18 : decode cX11_feed 18 = .ok (.aload_n 0, 1) := by decide +kernel
theorem dX11_feed_19 : decode cX11_feed 19 = .ok (.getfield 45, 3) := by decide +kernel
theorem dX11_feed_22 : decode cX11_feed 22 = .ok (.getfield 196, 3) := by decide +kernel
theorem dX11_feed_25 : decode cX11_feed 25 = .ok (.isub, 1) := by decide +kernel
theorem dX11_feed_26 : decode cX11_feed 26 = .ok (.if_icmp .le 6, 3) := by decide +kernel
theorem dX11_feed_29 : decode cX11_feed 29 = .ok (.bipush (-4), 2) := by decide +kernel
theorem dX11_feed_31 : decode cX11_feed 31 = .ok (.ireturn, 1) := by decide +kernel
theorem dX11_feed_32 : decode cX11_feed 32 = .ok (.aload_n 0, 1) := by decide +kernel
theorem dX11_feed_33 : decode cX11_feed 33 = .ok (.getfield 45, 3) := by decide +kernel
theorem dX11_feed_36 : decode cX11_feed 36 = .ok (.iload_n 1, 1) := by decide +kernel
theorem dX11_feed_37 : decode cX11_feed 37 = .ok (.lload_n 2, 1) := by decide +kernel
theorem dX11_feed_38 : decode cX11_feed 38 = .ok (.invokevirtual 197, 3) := by decide +kernel
theorem dX11_feed_41 : decode cX11_feed 41 = .ok (.ireturn, 1) := by decide +kernel
theorem dX11_text_0 : decode cX11_text 0 = .ok (.aload_n 0, 1) := by decide +kernel
theorem dX11_text_1 : decode cX11_text 1 = .ok (.getfield 52, 3) := by decide +kernel
theorem dX11_text_4 : decode cX11_text 4 = .ok (.getfield 201, 3) := by decide +kernel
theorem dX11_text_7 : decode cX11_text 7 = .ok (.bipush 6, 2) := by decide +kernel
theorem dX11_text_9 : decode cX11_text 9 = .ok (.if_icmp .ne 6, 3) := by decide +kernel
theorem dX11_text_12 : decode cX11_text 12 = .ok (.bipush (-4), 2) := by decide +kernel
theorem dX11_text_14 : decode cX11_text 14 = .ok (.ireturn, 1) := by decide +kernel
theorem dX11_text_15 : decode cX11_text 15 = .ok (.aload_n 0, 1) := by decide +kernel
theorem dX11_text_16 : decode cX11_text 16 = .ok (.getfield 45, 3) := by decide +kernel
theorem dX11_text_19 : decode cX11_text 19 = .ok (.invokevirtual 204, 3) := by decide +kernel
theorem dX11_text_22 : decode cX11_text 22 = .ok (.istore_n 1, 1) := by decide +kernel
theorem dX11_text_23 : decode cX11_text 23 = .ok (.aload_n 0, 1) := by decide +kernel
theorem dX11_text_24 : decode cX11_text 24 = .ok (.getfield 45, 3) := by decide +kernel
theorem dX11_text_27 : decode cX11_text 27 = .ok (.iconst 0, 1) := by decide +kernel
theorem dX11_text_28 : decode cX11_text 28 = .ok (.putfield 196, 3) := by decide +kernel
theorem dX11_text_31 : decode cX11_text 31 = .ok (.iload_n 1, 1) := by decide +kernel
theorem dX11_text_32 : decode cX11_text 32 = .ok (.iconst (-1), 1) := by decide +kernel
theorem dX11_text_33 : decode cX11_text 33 = .ok (.if_icmp .eq 8, 3) := by decide +kernel
theorem dX11_text_36 : decode cX11_text 36 = .ok (.bipush (-100), 2) := by decide +kernel
theorem dX11_text_38 : decode cX11_text 38 = .ok (.iload_n 1, 1) := by decide +kernel
theorem dX11_text_39 : decode cX11_text 39 = .ok (.isub, 1) := by decide +kernel
theorem dX11_text_40 : decode cX11_text 40 = .ok (.ireturn, 1) := by decide +kernel
theorem dX11_text_41 : decode cX11_text 41 = .ok (.aload_n 0, 1) := by decide +kernel
theorem dX11_text_42 : decode cX11_text 42 = .ok (.getfield 52, 3) := by decide +kernel
theorem dX11_text_45 : decode cX11_text 45 = .ok (.aload_n 0, 1) := by decide +kernel
theorem dX11_text_46 : decode cX11_text 46 = .ok (.getfield 45, 3) := by decide +kernel
theorem dX11_text_49 : decode cX11_text 49 = .ok (.invokevirtual 207, 3) := by decide +kernel
theorem dX11_text_52 : decode cX11_text 52 = .ok (.aload_n 0, 1) := by decide +kernel
theorem dX11_text_53 : decode cX11_text 53 = .ok (.getfield 45, 3) := by decide +kernel
theorem dX11_text_56 : decode cX11_text 56 = .ok (.getfield 211, 3) := by decide +kernel
theorem dX11_text_59 : decode cX11_text 59 = .ok (.invokevirtual 214, 3) := by decide +kernel
theorem dX11_text_62 : decode cX11_text 62 = .ok (.ireturn, 1) := by decide +kernel
theorem dX11_law_0 : decode cX11_law 0 = .ok (.aload_n 0, 1) := by decide +kernel
theorem dX11_law_1 : decode cX11_law 1 = .ok (.iload_n 1, 1) := by decide +kernel
theorem dX11_law_2 : decode cX11_law 2 = .ok (.iload_n 2, 1) := by decide +kernel
theorem dX11_law_3 : decode cX11_law 3 = .ok (.invokevirtual 151, 3) := by decide +kernel
theorem dX11_law_6 : decode cX11_law 6 = .ok (.ifCond .eq 18, 3) := by decide +kernel
theorem dX11_law_9 : decode cX11_law 9 = .ok (.iload_n 3, 1) := by decide +kernel
theorem dX11_law_10 : decode cX11_law 10 = .ok (.ifCond .lt 14, 3) := by decide +kernel
theorem dX11_law_13 : decode cX11_law 13 = .ok (.iload_n 3, 1) := by decide +kernel
theorem dX11_law_14 : decode cX11_law 14 = .ok (.aload_n 0, 1) := by decide +kernel
theorem dX11_law_15 : decode cX11_law 15 = .ok (.getfield 52, 3) := by decide +kernel
theorem dX11_law_18 : decode cX11_law 18 = .ok (.getfield 201, 3) := by decide +kernel
theorem dX11_law_21 : decode cX11_law 21 = .ok (.if_icmp .lt 6, 3) := by decide +kernel
theorem dX11_law_24 : decode cX11_law 24 = .ok (.bipush (-2), 2) := by decide +kernel
theorem dX11_law_26 : decode cX11_law 26 = .ok (.ireturn, 1) := by decide +kernel
theorem dX11_law_27 : decode cX11_law 27 = .ok (.aload_n 0, 1) := by decide +kernel
theorem dX11_law_28 : decode cX11_law 28 = .ok (.getfield 52, 3) := by decide +kernel
theorem dX11_law_31 : decode cX11_law 31 = .ok (.getfield 218, 3) := by decide +kernel
theorem dX11_law_34 : decode cX11_law 34 = .ok (.bipush 20, 2) := by decide +kernel
theorem dX11_law_36 : decode cX11_law 36 = .ok (.if_icmp .ne 6, 3) := by decide +kernel
theorem dX11_law_39 : decode cX11_law 39 = .ok (.bipush (-4), 2) := by decide +kernel
theorem dX11_law_41 : decode cX11_law 41 = .ok (.ireturn, 1) := by decide +kernel
theorem dX11_law_42 : decode cX11_law 42 = .ok (.aload_n 0, 1) := by decide +kernel
theorem dX11_law_43 : decode cX11_law 43 = .ok (.getfield 52, 3) := by decide +kernel
theorem dX11_law_46 : decode cX11_law 46 = .ok (.iload_n 1, 1) := by decide +kernel
theorem dX11_law_47 : decode cX11_law 47 = .ok (.iload_n 2, 1) := by decide +kernel
theorem dX11_law_48 : decode cX11_law 48 = .ok (.iload_n 3, 1) := by decide +kernel
theorem dX11_law_49 : decode cX11_law 49 = .ok (.invokevirtual 219, 3) := by decide +kernel
theorem dX11_law_52 : decode cX11_law 52 = .ok (.ireturn, 1) := by decide +kernel
theorem dX11_lawOf_0 : decode cX11_lawOf 0 = .ok (.aload_n 0, 1) := by decide +kernel
theorem dX11_lawOf_1 : decode cX11_lawOf 1 = .ok (.iload_n 1, 1) := by decide +kernel
theorem dX11_lawOf_2 : decode cX11_lawOf 2 = .ok (.iload_n 2, 1) := by decide +kernel
theorem dX11_lawOf_3 : decode cX11_lawOf 3 = .ok (.invokevirtual 151, 3) := by decide +kernel
theorem dX11_lawOf_6 : decode cX11_lawOf 6 = .ok (.ifCond .ne 6, 3) := by decide +kernel
theorem dX11_lawOf_9 : decode cX11_lawOf 9 = .ok (.bipush (-2), 2) := by decide +kernel
theorem dX11_lawOf_11 : decode cX11_lawOf 11 = .ok (.ireturn, 1) := by decide +kernel
theorem dX11_lawOf_12 : decode cX11_lawOf 12 = .ok (.aload_n 0, 1) := by decide +kernel
theorem dX11_lawOf_13 : decode cX11_lawOf 13 = .ok (.getfield 52, 3) := by decide +kernel
theorem dX11_lawOf_16 : decode cX11_lawOf 16 = .ok (.iload_n 1, 1) := by decide +kernel
theorem dX11_lawOf_17 : decode cX11_lawOf 17 = .ok (.iload_n 2, 1) := by decide +kernel
theorem dX11_lawOf_18 : decode cX11_lawOf 18 = .ok (.invokevirtual 222, 3) := by decide +kernel
theorem dX11_lawOf_21 : decode cX11_lawOf 21 = .ok (.ireturn, 1) := by decide +kernel
theorem dX11_says_0 : decode cX11_says 0 = .ok (.iload_n 1, 1) := by decide +kernel
theorem dX11_says_1 : decode cX11_says 1 = .ok (.invokestatic 95, 3) := by decide +kernel
theorem dX11_says_4 : decode cX11_says 4 = .ok (.ifCond .eq 15, 3) := by decide +kernel
theorem dX11_says_7 : decode cX11_says 7 = .ok (.iload_n 2, 1) := by decide +kernel
theorem dX11_says_8 : decode cX11_says 8 = .ok (.invokestatic 95, 3) := by decide +kernel
theorem dX11_says_11 : decode cX11_says 11 = .ok (.ifCond .eq 8, 3) := by decide +kernel
theorem dX11_says_14 : decode cX11_says 14 = .ok (.iload_n 1, 1) := by decide +kernel
theorem dX11_says_15 : decode cX11_says 15 = .ok (.iload_n 2, 1) := by decide +kernel
theorem dX11_says_16 : decode cX11_says 16 = .ok (.if_icmp .ne 7, 3) := by decide +kernel
theorem dX11_says_19 : decode cX11_says 19 = .ok (.ldc2_w 176, 3) := by decide +kernel
theorem dX11_says_22 : decode cX11_says 22 = .ok (.lreturn, 1) := by decide +kernel
theorem dX11_says_23 : decode cX11_says 23 = .ok (.aload_n 0, 1) := by decide +kernel
theorem dX11_says_24 : decode cX11_says 24 = .ok (.iload_n 3, 1) := by decide +kernel
theorem dX11_says_25 : decode cX11_says 25 = .ok (.invokevirtual 99, 3) := by decide +kernel
theorem dX11_says_28 : decode cX11_says 28 = .ok (.ifCond .eq 14, 3) := by decide +kernel
theorem dX11_says_31 : decode cX11_says 31 = .ok (.iload 4, 2) := by decide +kernel
theorem dX11_says_33 : decode cX11_says 33 = .ok (.ifCond .lt 9, 3) := by decide +kernel
theorem dX11_says_36 : decode cX11_says 36 = .ok (.iload 4, 2) := by decide +kernel
theorem dX11_says_38 : decode cX11_says 38 = .ok (.iconst 1, 1) := by decide +kernel
theorem dX11_says_39 : decode cX11_says 39 = .ok (.if_icmp .le 7, 3) := by decide +kernel
theorem dX11_says_42 : decode cX11_says 42 = .ok (.ldc2_w 176, 3) := by decide +kernel
theorem dX11_says_45 : decode cX11_says 45 = .ok (.lreturn, 1) := by decide +kernel
theorem dX11_says_46 : decode cX11_says 46 = .ok (.iload 4, 2) := by decide +kernel
theorem dX11_says_48 : decode cX11_says 48 = .ok (.ifCond .ne 17, 3) := by decide +kernel
theorem dX11_says_51 : decode cX11_says 51 = .ok (.aload_n 0, 1) := by decide +kernel
theorem dX11_says_52 : decode cX11_says 52 = .ok (.getfield 52, 3) := by decide +kernel
theorem dX11_says_55 : decode cX11_says 55 = .ok (.iload_n 1, 1) := by decide +kernel
theorem dX11_says_56 : decode cX11_says 56 = .ok (.iload_n 2, 1) := by decide +kernel
theorem dX11_says_57 : decode cX11_says 57 = .ok (.iload_n 3, 1) := by decide +kernel
theorem dX11_says_58 : decode cX11_says 58 = .ok (.invokevirtual 225, 3) := by decide +kernel
theorem dX11_says_61 : decode cX11_says 61 = .ok (.i2l, 1) := by decide +kernel
theorem dX11_says_62 : decode cX11_says 62 = .ok (.goto 14, 3) := by decide +kernel
theorem dX11_says_65 : decode cX11_says 65 = .ok (.aload_n 0, 1) := by decide +kernel
theorem dX11_says_66 : decode cX11_says 66 = .ok (.getfield 52, 3) := by decide +kernel
theorem dX11_says_69 : decode cX11_says 69 = .ok (.iload_n 1, 1) := by decide +kernel
theorem dX11_says_70 : decode cX11_says 70 = .ok (.iload_n 2, 1) := by decide +kernel
theorem dX11_says_71 : decode cX11_says 71 = .ok (.iload_n 3, 1) := by decide +kernel
theorem dX11_says_72 : decode cX11_says 72 = .ok (.invokevirtual 228, 3) := by decide +kernel
theorem dX11_says_75 : decode cX11_says 75 = .ok (.i2l, 1) := by decide +kernel
theorem dX11_says_76 : decode cX11_says 76 = .ok (.lreturn, 1) := by decide +kernel
theorem dX11_given_0 : decode cX11_given 0 = .ok (.iload_n 1, 1) := by decide +kernel
theorem dX11_given_1 : decode cX11_given 1 = .ok (.invokestatic 95, 3) := by decide +kernel
theorem dX11_given_4 : decode cX11_given 4 = .ok (.ifCond .ne 7, 3) := by decide +kernel
theorem dX11_given_7 : decode cX11_given 7 = .ok (.ldc2_w 176, 3) := by decide +kernel
theorem dX11_given_10 : decode cX11_given 10 = .ok (.lreturn, 1) := by decide +kernel
theorem dX11_given_11 : decode cX11_given 11 = .ok (.aload_n 0, 1) := by decide +kernel
theorem dX11_given_12 : decode cX11_given 12 = .ok (.invokevirtual 231, 3) := by decide +kernel
theorem dX11_given_15 : decode cX11_given 15 = .ok (.aload_n 0, 1) := by decide +kernel
theorem dX11_given_16 : decode cX11_given 16 = .ok (.getfield 61, 3) := by decide +kernel
theorem dX11_given_19 : decode cX11_given 19 = .ok (.iload_n 1, 1) := by decide +kernel
theorem dX11_given_20 : decode cX11_given 20 = .ok (.invokevirtual 234, 3) := by decide +kernel
theorem dX11_given_23 : decode cX11_given 23 = .ok (.lreturn, 1) := by decide +kernel
theorem dX11_claim_0 : decode cX11_claim 0 = .ok (.iload_n 1, 1) := by decide +kernel
theorem dX11_claim_1 : decode cX11_claim 1 = .ok (.invokestatic 95, 3) := by decide +kernel
theorem dX11_claim_4 : decode cX11_claim 4 = .ok (.ifCond .ne 7, 3) := by decide +kernel
theorem dX11_claim_7 : decode cX11_claim 7 = .ok (.ldc2_w 176, 3) := by decide +kernel
theorem dX11_claim_10 : decode cX11_claim 10 = .ok (.lreturn, 1) := by decide +kernel
theorem dX11_claim_11 : decode cX11_claim 11 = .ok (.aload_n 0, 1) := by decide +kernel
theorem dX11_claim_12 : decode cX11_claim 12 = .ok (.getfield 38, 3) := by decide +kernel
theorem dX11_claim_15 : decode cX11_claim 15 = .ok (.invokevirtual 169, 3) := by decide +kernel
theorem dX11_claim_18 : decode cX11_claim 18 = .ok (.aload_n 0, 1) := by decide +kernel
theorem dX11_claim_19 : decode cX11_claim 19 = .ok (.getfield 61, 3) := by decide +kernel
theorem dX11_claim_22 : decode cX11_claim 22 = .ok (.iload_n 1, 1) := by decide +kernel
theorem dX11_claim_23 : decode cX11_claim 23 = .ok (.invokevirtual 237, 3) := by decide +kernel
theorem dX11_claim_26 : decode cX11_claim 26 = .ok (.lreturn, 1) := by decide +kernel
theorem dX11_judge_0 : decode cX11_judge 0 = .ok (.aload_n 0, 1) := by decide +kernel
theorem dX11_judge_1 : decode cX11_judge 1 = .ok (.getfield 61, 3) := by decide +kernel
theorem dX11_judge_4 : decode cX11_judge 4 = .ok (.getfield 240, 3) := by decide +kernel
theorem dX11_judge_7 : decode cX11_judge 7 = .ok (.bipush 12, 2) := by decide +kernel
theorem dX11_judge_9 : decode cX11_judge 9 = .ok (.if_icmp .ne 6, 3) := by decide +kernel
theorem dX11_judge_12 : decode cX11_judge 12 = .ok (.bipush (-4), 2) := by decide +kernel
theorem dX11_judge_14 : decode cX11_judge 14 = .ok (.ireturn, 1) := by decide +kernel
theorem dX11_judge_15 : decode cX11_judge 15 = .ok (.aload_n 0, 1) := by decide +kernel
theorem dX11_judge_16 : decode cX11_judge 16 = .ok (.invokevirtual 231, 3) := by decide +kernel
theorem dX11_judge_19 : decode cX11_judge 19 = .ok (.aload_n 0, 1) := by decide +kernel
theorem dX11_judge_20 : decode cX11_judge 20 = .ok (.getfield 61, 3) := by decide +kernel
theorem dX11_judge_23 : decode cX11_judge 23 = .ok (.invokevirtual 241, 3) := by decide +kernel
theorem dX11_judge_26 : decode cX11_judge 26 = .ok (.ireturn, 1) := by decide +kernel
theorem dX11_judged_0 : decode cX11_judged 0 = .ok (.aload_n 0, 1) := by decide +kernel
theorem dX11_judged_1 : decode cX11_judged 1 = .ok (.getfield 61, 3) := by decide +kernel
theorem dX11_judged_4 : decode cX11_judged 4 = .ok (.iload_n 1, 1) := by decide +kernel
theorem dX11_judged_5 : decode cX11_judged 5 = .ok (.invokevirtual 244, 3) := by decide +kernel
theorem dX11_judged_8 : decode cX11_judged 8 = .ok (.ifCond .eq 10, 3) := by decide +kernel
theorem dX11_judged_11 : decode cX11_judged 11 = .ok (.iload_n 2, 1) := by decide +kernel
theorem dX11_judged_12 : decode cX11_judged 12 = .ok (.invokestatic 95, 3) := by decide +kernel
theorem dX11_judged_15 : decode cX11_judged 15 = .ok (.ifCond .ne 7, 3) := by decide +kernel
theorem dX11_judged_18 : decode cX11_judged 18 = .ok (.ldc2_w 176, 3) := by decide +kernel
theorem dX11_judged_21 : decode cX11_judged 21 = .ok (.lreturn, 1) := by decide +kernel
theorem dX11_judged_22 : decode cX11_judged 22 = .ok (.aload_n 0, 1) := by decide +kernel
theorem dX11_judged_23 : decode cX11_judged 23 = .ok (.getfield 61, 3) := by decide +kernel
theorem dX11_judged_26 : decode cX11_judged 26 = .ok (.iload_n 1, 1) := by decide +kernel
theorem dX11_judged_27 : decode cX11_judged 27 = .ok (.iload_n 2, 1) := by decide +kernel
theorem dX11_judged_28 : decode cX11_judged 28 = .ok (.invokevirtual 245, 3) := by decide +kernel
theorem dX11_judged_31 : decode cX11_judged 31 = .ok (.lreturn, 1) := by decide +kernel
theorem dX11_changed_0 : decode cX11_changed 0 = .ok (.aload_n 0, 1) := by decide +kernel
theorem dX11_changed_1 : decode cX11_changed 1 = .ok (.getfield 61, 3) := by decide +kernel
theorem dX11_changed_4 : decode cX11_changed 4 = .ok (.iload_n 1, 1) := by decide +kernel
theorem dX11_changed_5 : decode cX11_changed 5 = .ok (.invokevirtual 244, 3) := by decide +kernel
theorem dX11_changed_8 : decode cX11_changed 8 = .ok (.ifCond .ne 6, 3) := by decide +kernel
theorem dX11_changed_11 : decode cX11_changed 11 = .ok (.bipush (-2), 2) := by decide +kernel
theorem dX11_changed_13 : decode cX11_changed 13 = .ok (.ireturn, 1) := by decide +kernel
theorem dX11_changed_14 : decode cX11_changed 14 = .ok (.aload_n 0, 1) := by decide +kernel
theorem dX11_changed_15 : decode cX11_changed 15 = .ok (.invokevirtual 231, 3) := by decide +kernel
theorem dX11_changed_18 : decode cX11_changed 18 = .ok (.aload_n 0, 1) := by decide +kernel
theorem dX11_changed_19 : decode cX11_changed 19 = .ok (.getfield 61, 3) := by decide +kernel
theorem dX11_changed_22 : decode cX11_changed 22 = .ok (.iload_n 1, 1) := by decide +kernel
theorem dX11_changed_23 : decode cX11_changed 23 = .ok (.invokevirtual 249, 3) := by decide +kernel
theorem dX11_changed_26 : decode cX11_changed 26 = .ok (.ireturn, 1) := by decide +kernel
theorem dX11_worst_0 : decode cX11_worst 0 = .ok (.aload_n 0, 1) := by decide +kernel
theorem dX11_worst_1 : decode cX11_worst 1 = .ok (.iload_n 1, 1) := by decide +kernel
theorem dX11_worst_2 : decode cX11_worst 2 = .ok (.iload_n 2, 1) := by decide +kernel
theorem dX11_worst_3 : decode cX11_worst 3 = .ok (.invokevirtual 151, 3) := by decide +kernel
theorem dX11_worst_6 : decode cX11_worst 6 = .ok (.ifCond .ne 7, 3) := by decide +kernel
theorem dX11_worst_9 : decode cX11_worst 9 = .ok (.ldc2_w 176, 3) := by decide +kernel
theorem dX11_worst_12 : decode cX11_worst 12 = .ok (.lreturn, 1) := by decide +kernel
theorem dX11_worst_13 : decode cX11_worst 13 = .ok (.aload_n 0, 1) := by decide +kernel
theorem dX11_worst_14 : decode cX11_worst 14 = .ok (.getfield 38, 3) := by decide +kernel
theorem dX11_worst_17 : decode cX11_worst 17 = .ok (.invokevirtual 169, 3) := by decide +kernel
theorem dX11_worst_20 : decode cX11_worst 20 = .ok (.aload_n 0, 1) := by decide +kernel
theorem dX11_worst_21 : decode cX11_worst 21 = .ok (.getfield 70, 3) := by decide +kernel
theorem dX11_worst_24 : decode cX11_worst 24 = .ok (.iload_n 1, 1) := by decide +kernel
theorem dX11_worst_25 : decode cX11_worst 25 = .ok (.iload_n 2, 1) := by decide +kernel
theorem dX11_worst_26 : decode cX11_worst 26 = .ok (.invokestatic 178, 3) := by decide +kernel
theorem dX11_worst_29 : decode cX11_worst 29 = .ok (.invokevirtual 252, 3) := by decide +kernel
theorem dX11_worst_32 : decode cX11_worst 32 = .ok (.lreturn, 1) := by decide +kernel
theorem dX11_question_0 : decode cX11_question 0 = .ok (.aload_n 0, 1) := by decide +kernel
theorem dX11_question_1 : decode cX11_question 1 = .ok (.getfield 38, 3) := by decide +kernel
theorem dX11_question_4 : decode cX11_question 4 = .ok (.invokevirtual 169, 3) := by decide +kernel
theorem dX11_question_7 : decode cX11_question 7 = .ok (.aload_n 0, 1) := by decide +kernel
theorem dX11_question_8 : decode cX11_question 8 = .ok (.getfield 70, 3) := by decide +kernel
theorem dX11_question_11 : decode cX11_question 11 = .ok (.invokevirtual 255, 3) := by decide +kernel
theorem dX11_question_14 : decode cX11_question 14 = .ok (.ireturn, 1) := by decide +kernel
theorem dX11_worstOfTwo_0 : decode cX11_worstOfTwo 0 = .ok (.aload_n 0, 1) := by decide +kernel
theorem dX11_worstOfTwo_1 : decode cX11_worstOfTwo 1 = .ok (.iload_n 1, 1) := by decide +kernel
theorem dX11_worstOfTwo_2 : decode cX11_worstOfTwo 2 = .ok (.iload_n 2, 1) := by decide +kernel
theorem dX11_worstOfTwo_3 : decode cX11_worstOfTwo 3 = .ok (.invokevirtual 151, 3) := by decide +kernel
theorem dX11_worstOfTwo_6 : decode cX11_worstOfTwo 6 = .ok (.ifCond .ne 7, 3) := by decide +kernel
theorem dX11_worstOfTwo_9 : decode cX11_worstOfTwo 9 = .ok (.ldc2_w 176, 3) := by decide +kernel
theorem dX11_worstOfTwo_12 : decode cX11_worstOfTwo 12 = .ok (.lreturn, 1) := by decide +kernel
theorem dX11_worstOfTwo_13 : decode cX11_worstOfTwo 13 = .ok (.aload_n 0, 1) := by decide +kernel
theorem dX11_worstOfTwo_14 : decode cX11_worstOfTwo 14 = .ok (.getfield 38, 3) := by decide +kernel
theorem dX11_worstOfTwo_17 : decode cX11_worstOfTwo 17 = .ok (.invokevirtual 169, 3) := by decide +kernel
theorem dX11_worstOfTwo_20 : decode cX11_worstOfTwo 20 = .ok (.aload_n 0, 1) := by decide +kernel
theorem dX11_worstOfTwo_21 : decode cX11_worstOfTwo 21 = .ok (.getfield 70, 3) := by decide +kernel
theorem dX11_worstOfTwo_24 : decode cX11_worstOfTwo 24 = .ok (.iload_n 1, 1) := by decide +kernel
theorem dX11_worstOfTwo_25 : decode cX11_worstOfTwo 25 = .ok (.iload_n 2, 1) := by decide +kernel
theorem dX11_worstOfTwo_26 : decode cX11_worstOfTwo 26 = .ok (.invokevirtual 258, 3) := by decide +kernel
theorem dX11_worstOfTwo_29 : decode cX11_worstOfTwo 29 = .ok (.lreturn, 1) := by decide +kernel
theorem dX11_firstOfTwo_0 : decode cX11_firstOfTwo 0 = .ok (.aload_n 0, 1) := by decide +kernel
theorem dX11_firstOfTwo_1 : decode cX11_firstOfTwo 1 = .ok (.getfield 38, 3) := by decide +kernel
theorem dX11_firstOfTwo_4 : decode cX11_firstOfTwo 4 = .ok (.invokevirtual 169, 3) := by decide +kernel
theorem dX11_firstOfTwo_7 : decode cX11_firstOfTwo 7 = .ok (.aload_n 0, 1) := by decide +kernel
theorem dX11_firstOfTwo_8 : decode cX11_firstOfTwo 8 = .ok (.getfield 70, 3) := by decide +kernel
theorem dX11_firstOfTwo_11 : decode cX11_firstOfTwo 11 = .ok (.invokevirtual 261, 3) := by decide +kernel
theorem dX11_firstOfTwo_14 : decode cX11_firstOfTwo 14 = .ok (.ireturn, 1) := by decide +kernel
theorem dX11_sherd_0 : decode cX11_sherd 0 = .ok (.iload_n 1, 1) := by decide +kernel
theorem dX11_sherd_1 : decode cX11_sherd 1 = .ok (.invokestatic 264, 3) := by decide +kernel
theorem dX11_sherd_4 : decode cX11_sherd 4 = .ok (.ifCond .eq 10, 3) := by decide +kernel
theorem dX11_sherd_7 : decode cX11_sherd 7 = .ok (.iload_n 2, 1) := by decide +kernel
theorem dX11_sherd_8 : decode cX11_sherd 8 = .ok (.invokestatic 264, 3) := by decide +kernel
theorem dX11_sherd_11 : decode cX11_sherd 11 = .ok (.ifCond .ne 6, 3) := by decide +kernel
theorem dX11_sherd_14 : decode cX11_sherd 14 = .ok (.bipush (-2), 2) := by decide +kernel
theorem dX11_sherd_16 : decode cX11_sherd 16 = .ok (.ireturn, 1) := by decide +kernel
theorem dX11_sherd_17 : decode cX11_sherd 17 = .ok (.aload_n 0, 1) := by decide +kernel
theorem dX11_sherd_18 : decode cX11_sherd 18 = .ok (.getfield 77, 3) := by decide +kernel
theorem dX11_sherd_21 : decode cX11_sherd 21 = .ok (.getfield 267, 3) := by decide +kernel
theorem dX11_sherd_24 : decode cX11_sherd 24 = .ok (.bipush 8, 2) := by decide +kernel
theorem dX11_sherd_26 : decode cX11_sherd 26 = .ok (.if_icmp .ne 6, 3) := by decide +kernel
theorem dX11_sherd_29 : decode cX11_sherd 29 = .ok (.bipush (-4), 2) := by decide +kernel
theorem dX11_sherd_31 : decode cX11_sherd 31 = .ok (.ireturn, 1) := by decide +kernel
theorem dX11_sherd_32 : decode cX11_sherd 32 = .ok (.aload_n 0, 1) := by decide +kernel
theorem dX11_sherd_33 : decode cX11_sherd 33 = .ok (.getfield 77, 3) := by decide +kernel
theorem dX11_sherd_36 : decode cX11_sherd 36 = .ok (.iload_n 1, 1) := by decide +kernel
theorem dX11_sherd_37 : decode cX11_sherd 37 = .ok (.iload_n 2, 1) := by decide +kernel
theorem dX11_sherd_38 : decode cX11_sherd 38 = .ok (.invokevirtual 268, 3) := by decide +kernel
theorem dX11_sherd_41 : decode cX11_sherd 41 = .ok (.ireturn, 1) := by decide +kernel
theorem dX11_set_0 : decode cX11_set 0 = .ok (.iload_n 1, 1) := by decide +kernel
theorem dX11_set_1 : decode cX11_set 1 = .ok (.ifCond .ne 33, 3) := by decide +kernel
theorem dX11_set_4 : decode cX11_set 4 = .ok (.iload_n 2, 1) := by decide +kernel
theorem dX11_set_5 : decode cX11_set 5 = .ok (.ifCond .lt 8, 3) := by decide +kernel
theorem dX11_set_8 : decode cX11_set 8 = .ok (.iload_n 2, 1) := by decide +kernel
theorem dX11_set_9 : decode cX11_set 9 = .ok (.iconst 4, 1) := by decide +kernel
theorem dX11_set_10 : decode cX11_set 10 = .ok (.if_icmp .le 6, 3) := by decide +kernel
theorem dX11_set_13 : decode cX11_set 13 = .ok (.bipush (-2), 2) := by decide +kernel
theorem dX11_set_15 : decode cX11_set 15 = .ok (.ireturn, 1) := by decide +kernel
theorem dX11_set_16 : decode cX11_set 16 = .ok (.aload_n 0, 1) := by decide +kernel
theorem dX11_set_17 : decode cX11_set 17 = .ok (.getfield 77, 3) := by decide +kernel
theorem dX11_set_20 : decode cX11_set 20 = .ok (.getfield 270, 3) := by decide +kernel
theorem dX11_set_23 : decode cX11_set 23 = .ok (.istore_n 3, 1) := by decide +kernel
theorem dX11_set_24 : decode cX11_set 24 = .ok (.aload_n 0, 1) := by decide +kernel
theorem dX11_set_25 : decode cX11_set 25 = .ok (.getfield 77, 3) := by decide +kernel
theorem dX11_set_28 : decode cX11_set 28 = .ok (.iload_n 2, 1) := by decide +kernel
theorem dX11_set_29 : decode cX11_set 29 = .ok (.putfield 270, 3) := by decide +kernel
theorem dX11_set_32 : decode cX11_set 32 = .ok (.iload_n 3, 1) := by decide +kernel
theorem dX11_set_33 : decode cX11_set 33 = .ok (.ireturn, 1) := by decide +kernel
theorem dX11_set_34 : decode cX11_set 34 = .ok (.iload_n 1, 1) := by decide +kernel
theorem dX11_set_35 : decode cX11_set 35 = .ok (.iconst 1, 1) := by decide +kernel
theorem dX11_set_36 : decode cX11_set 36 = .ok (.if_icmp .ne 14, 3) := by decide +kernel
theorem dX11_set_39 : decode cX11_set 39 = .ok (.iload_n 2, 1) := by decide +kernel
theorem dX11_set_40 : decode cX11_set 40 = .ok (.iconst 1, 1) := by decide +kernel
theorem dX11_set_41 : decode cX11_set 41 = .ok (.if_icmp .lt 9, 3) := by decide +kernel
theorem dX11_set_44 : decode cX11_set 44 = .ok (.iload_n 2, 1) := by decide +kernel
theorem dX11_set_45 : decode cX11_set 45 = .ok (.bipush 10, 2) := by decide +kernel
theorem dX11_set_47 : decode cX11_set 47 = .ok (.if_icmp .le 6, 3) := by decide +kernel
theorem dX11_set_50 : decode cX11_set 50 = .ok (.bipush (-2), 2) := by decide +kernel
theorem dX11_set_52 : decode cX11_set 52 = .ok (.ireturn, 1) := by decide +kernel
theorem dX11_set_53 : decode cX11_set 53 = .ok (.aload_n 0, 1) := by decide +kernel
theorem dX11_set_54 : decode cX11_set 54 = .ok (.getfield 84, 3) := by decide +kernel
theorem dX11_set_57 : decode cX11_set 57 = .ok (.getfield 273, 3) := by decide +kernel
theorem dX11_set_60 : decode cX11_set 60 = .ok (.istore_n 3, 1) := by decide +kernel
theorem dX11_set_61 : decode cX11_set 61 = .ok (.aload_n 0, 1) := by decide +kernel
theorem dX11_set_62 : decode cX11_set 62 = .ok (.getfield 84, 3) := by decide +kernel
theorem dX11_set_65 : decode cX11_set 65 = .ok (.iload_n 2, 1) := by decide +kernel
theorem dX11_set_66 : decode cX11_set 66 = .ok (.putfield 273, 3) := by decide +kernel
theorem dX11_set_69 : decode cX11_set 69 = .ok (.iload_n 3, 1) := by decide +kernel
theorem dX11_set_70 : decode cX11_set 70 = .ok (.ireturn, 1) := by decide +kernel
theorem dX11_joined_0 : decode cX11_joined 0 = .ok (.aload_n 0, 1) := by decide +kernel
theorem dX11_joined_1 : decode cX11_joined 1 = .ok (.getfield 77, 3) := by decide +kernel
theorem dX11_joined_4 : decode cX11_joined 4 = .ok (.iload_n 1, 1) := by decide +kernel
theorem dX11_joined_5 : decode cX11_joined 5 = .ok (.invokevirtual 276, 3) := by decide +kernel
theorem dX11_joined_8 : decode cX11_joined 8 = .ok (.ifCond .eq 19, 3) := by decide +kernel
theorem dX11_joined_11 : decode cX11_joined 11 = .ok (.aload_n 0, 1) := by decide +kernel
theorem dX11_joined_12 : decode cX11_joined 12 = .ok (.getfield 77, 3) := by decide +kernel
theorem dX11_joined_15 : decode cX11_joined 15 = .ok (.iload_n 2, 1) := by decide +kernel
theorem dX11_joined_16 : decode cX11_joined 16 = .ok (.invokevirtual 276, 3) := by decide +kernel
theorem dX11_joined_19 : decode cX11_joined 19 = .ok (.ifCond .eq 8, 3) := by decide +kernel
theorem dX11_joined_22 : decode cX11_joined 22 = .ok (.iload_n 1, 1) := by decide +kernel
theorem dX11_joined_23 : decode cX11_joined 23 = .ok (.iload_n 2, 1) := by decide +kernel
theorem dX11_joined_24 : decode cX11_joined 24 = .ok (.if_icmp .ne 6, 3) := by decide +kernel
theorem dX11_joined_27 : decode cX11_joined 27 = .ok (.bipush (-2), 2) := by decide +kernel
theorem dX11_joined_29 : decode cX11_joined 29 = .ok (.ireturn, 1) := by decide +kernel
theorem dX11_joined_30 : decode cX11_joined 30 = .ok (.aload_n 0, 1) := by decide +kernel
theorem dX11_joined_31 : decode cX11_joined 31 = .ok (.getfield 77, 3) := by decide +kernel
theorem dX11_joined_34 : decode cX11_joined 34 = .ok (.iload_n 1, 1) := by decide +kernel
theorem dX11_joined_35 : decode cX11_joined 35 = .ok (.iload_n 2, 1) := by decide +kernel
theorem dX11_joined_36 : decode cX11_joined 36 = .ok (.invokevirtual 277, 3) := by decide +kernel
theorem dX11_joined_39 : decode cX11_joined 39 = .ok (.ifCond .eq 7, 3) := by decide +kernel
theorem dX11_joined_42 : decode cX11_joined 42 = .ok (.iconst 1, 1) := by decide +kernel
theorem dX11_joined_43 : decode cX11_joined 43 = .ok (.goto 4, 3) := by decide +kernel
theorem dX11_joined_46 : decode cX11_joined 46 = .ok (.iconst 0, 1) := by decide +kernel
theorem dX11_joined_47 : decode cX11_joined 47 = .ok (.ireturn, 1) := by decide +kernel
theorem dX11_row_0 : decode cX11_row 0 = .ok (.iload_n 1, 1) := by decide +kernel
theorem dX11_row_1 : decode cX11_row 1 = .ok (.iconst (-1), 1) := by decide +kernel
theorem dX11_row_2 : decode cX11_row 2 = .ok (.if_icmp .lt 14, 3) := by decide +kernel
theorem dX11_row_5 : decode cX11_row 5 = .ok (.iload_n 1, 1) := by decide +kernel
theorem dX11_row_6 : decode cX11_row 6 = .ok (.aload_n 0, 1) := by decide +kernel
theorem dX11_row_7 : decode cX11_row 7 = .ok (.getfield 77, 3) := by decide +kernel
theorem dX11_row_10 : decode cX11_row 10 = .ok (.getfield 267, 3) := by decide +kernel
theorem dX11_row_13 : decode cX11_row 13 = .ok (.if_icmp .lt 5, 3) := by decide +kernel
theorem dX11_row_16 : decode cX11_row 16 = .ok (.iconst (-1), 1) := by decide +kernel
theorem dX11_row_17 : decode cX11_row 17 = .ok (.ireturn, 1) := by decide +kernel
theorem dX11_row_18 : decode cX11_row 18 = .ok (.aload_n 0, 1) := by decide +kernel
theorem dX11_row_19 : decode cX11_row 19 = .ok (.getfield 77, 3) := by decide +kernel
theorem dX11_row_22 : decode cX11_row 22 = .ok (.invokevirtual 280, 3) := by decide +kernel
theorem dX11_row_25 : decode cX11_row 25 = .ok (.istore_n 2, 1) := by decide +kernel
theorem dX11_row_26 : decode cX11_row 26 = .ok (.iload_n 1, 1) := by decide +kernel
theorem dX11_row_27 : decode cX11_row 27 = .ok (.iconst (-1), 1) := by decide +kernel
theorem dX11_row_28 : decode cX11_row 28 = .ok (.if_icmp .ne 5, 3) := by decide +kernel
theorem dX11_row_31 : decode cX11_row 31 = .ok (.iload_n 2, 1) := by decide +kernel
theorem dX11_row_32 : decode cX11_row 32 = .ok (.ireturn, 1) := by decide +kernel
theorem dX11_row_33 : decode cX11_row 33 = .ok (.iload_n 1, 1) := by decide +kernel
theorem dX11_row_34 : decode cX11_row 34 = .ok (.iload_n 2, 1) := by decide +kernel
theorem dX11_row_35 : decode cX11_row 35 = .ok (.if_icmp .ge 15, 3) := by decide +kernel
theorem dX11_row_38 : decode cX11_row 38 = .ok (.aload_n 0, 1) := by decide +kernel
theorem dX11_row_39 : decode cX11_row 39 = .ok (.getfield 77, 3) := by decide +kernel
theorem dX11_row_42 : decode cX11_row 42 = .ok (.iload_n 1, 1) := by decide +kernel
theorem dX11_row_43 : decode cX11_row 43 = .ok (.iload_n 2, 1) := by decide +kernel
theorem dX11_row_44 : decode cX11_row 44 = .ok (.invokevirtual 283, 3) := by decide +kernel
theorem dX11_row_47 : decode cX11_row 47 = .ok (.goto 4, 3) := by decide +kernel
theorem dX11_row_50 : decode cX11_row 50 = .ok (.iconst (-1), 1) := by decide +kernel
theorem dX11_row_51 : decode cX11_row 51 = .ok (.ireturn, 1) := by decide +kernel
theorem dX11_record_0 : decode cX11_record 0 = .ok (.iload_n 1, 1) := by decide +kernel
theorem dX11_record_1 : decode cX11_record 1 = .ok (.invokestatic 286, 3) := by decide +kernel
theorem dX11_record_4 : decode cX11_record 4 = .ok (.ifCond .eq 10, 3) := by decide +kernel
theorem dX11_record_7 : decode cX11_record 7 = .ok (.iload_n 2, 1) := by decide +kernel
theorem dX11_record_8 : decode cX11_record 8 = .ok (.invokestatic 286, 3) := by decide +kernel
theorem dX11_record_11 : decode cX11_record 11 = .ok (.ifCond .ne 6, 3) := by decide +kernel
theorem dX11_record_14 : decode cX11_record 14 = .ok (.bipush (-2), 2) := by decide +kernel
theorem dX11_record_16 : decode cX11_record 16 = .ok (.ireturn, 1) := by decide +kernel
theorem dX11_record_17 : decode cX11_record 17 = .ok (.aload_n 0, 1) := by decide +kernel
theorem dX11_record_18 : decode cX11_record 18 = .ok (.getfield 84, 3) := by decide +kernel
theorem dX11_record_21 : decode cX11_record 21 = .ok (.getfield 289, 3) := by decide +kernel
theorem dX11_record_24 : decode cX11_record 24 = .ok (.bipush 10, 2) := by decide +kernel
theorem dX11_record_26 : decode cX11_record 26 = .ok (.if_icmp .ne 6, 3) := by decide +kernel
theorem dX11_record_29 : decode cX11_record 29 = .ok (.bipush (-4), 2) := by decide +kernel
theorem dX11_record_31 : decode cX11_record 31 = .ok (.ireturn, 1) := by decide +kernel
theorem dX11_record_32 : decode cX11_record 32 = .ok (.aload_n 0, 1) := by decide +kernel
theorem dX11_record_33 : decode cX11_record 33 = .ok (.getfield 84, 3) := by decide +kernel
theorem dX11_record_36 : decode cX11_record 36 = .ok (.iload_n 1, 1) := by decide +kernel
theorem dX11_record_37 : decode cX11_record 37 = .ok (.iload_n 2, 1) := by decide +kernel
theorem dX11_record_38 : decode cX11_record 38 = .ok (.invokevirtual 290, 3) := by decide +kernel
theorem dX11_record_41 : decode cX11_record 41 = .ok (.ireturn, 1) := by decide +kernel
theorem dX11_same_0 : decode cX11_same 0 = .ok (.aload_n 0, 1) := by decide +kernel
theorem dX11_same_1 : decode cX11_same 1 = .ok (.getfield 84, 3) := by decide +kernel
theorem dX11_same_4 : decode cX11_same 4 = .ok (.iload_n 1, 1) := by decide +kernel
theorem dX11_same_5 : decode cX11_same 5 = .ok (.invokevirtual 291, 3) := by decide +kernel
theorem dX11_same_8 : decode cX11_same 8 = .ok (.ifCond .eq 14, 3) := by decide +kernel
theorem dX11_same_11 : decode cX11_same 11 = .ok (.aload_n 0, 1) := by decide +kernel
theorem dX11_same_12 : decode cX11_same 12 = .ok (.getfield 84, 3) := by decide +kernel
theorem dX11_same_15 : decode cX11_same 15 = .ok (.iload_n 2, 1) := by decide +kernel
theorem dX11_same_16 : decode cX11_same 16 = .ok (.invokevirtual 291, 3) := by decide +kernel
theorem dX11_same_19 : decode cX11_same 19 = .ok (.ifCond .ne 6, 3) := by decide +kernel
theorem dX11_same_22 : decode cX11_same 22 = .ok (.bipush (-2), 2) := by decide +kernel
theorem dX11_same_24 : decode cX11_same 24 = .ok (.ireturn, 1) := by decide +kernel
theorem dX11_same_25 : decode cX11_same 25 = .ok (.iload_n 3, 1) := by decide +kernel
theorem dX11_same_26 : decode cX11_same 26 = .ok (.tableswitch 83 0 2 #[26, 44, 62], 26) := by decide +kernel
theorem dX11_same_52 : decode cX11_same 52 = .ok (.aload_n 0, 1) := by decide +kernel
theorem dX11_same_53 : decode cX11_same 53 = .ok (.getfield 84, 3) := by decide +kernel
theorem dX11_same_56 : decode cX11_same 56 = .ok (.iload_n 1, 1) := by decide +kernel
theorem dX11_same_57 : decode cX11_same 57 = .ok (.iload_n 2, 1) := by decide +kernel
theorem dX11_same_58 : decode cX11_same 58 = .ok (.invokevirtual 292, 3) := by decide +kernel
theorem dX11_same_61 : decode cX11_same 61 = .ok (.ifCond .eq 7, 3) := by decide +kernel
theorem dX11_same_64 : decode cX11_same 64 = .ok (.iconst 1, 1) := by decide +kernel
theorem dX11_same_65 : decode cX11_same 65 = .ok (.goto 4, 3) := by decide +kernel
theorem dX11_same_68 : decode cX11_same 68 = .ok (.iconst 0, 1) := by decide +kernel
theorem dX11_same_69 : decode cX11_same 69 = .ok (.ireturn, 1) := by decide +kernel
theorem dX11_same_70 : decode cX11_same 70 = .ok (.aload_n 0, 1) := by decide +kernel
theorem dX11_same_71 : decode cX11_same 71 = .ok (.getfield 84, 3) := by decide +kernel
theorem dX11_same_74 : decode cX11_same 74 = .ok (.iload_n 1, 1) := by decide +kernel
theorem dX11_same_75 : decode cX11_same 75 = .ok (.iload_n 2, 1) := by decide +kernel
theorem dX11_same_76 : decode cX11_same 76 = .ok (.invokevirtual 295, 3) := by decide +kernel
theorem dX11_same_79 : decode cX11_same 79 = .ok (.ifCond .eq 7, 3) := by decide +kernel
theorem dX11_same_82 : decode cX11_same 82 = .ok (.iconst 1, 1) := by decide +kernel
theorem dX11_same_83 : decode cX11_same 83 = .ok (.goto 4, 3) := by decide +kernel
theorem dX11_same_86 : decode cX11_same 86 = .ok (.iconst 0, 1) := by decide +kernel
theorem dX11_same_87 : decode cX11_same 87 = .ok (.ireturn, 1) := by decide +kernel
theorem dX11_same_88 : decode cX11_same 88 = .ok (.aload_n 0, 1) := by decide +kernel
theorem dX11_same_89 : decode cX11_same 89 = .ok (.getfield 84, 3) := by decide +kernel
theorem dX11_same_92 : decode cX11_same 92 = .ok (.iload_n 1, 1) := by decide +kernel
theorem dX11_same_93 : decode cX11_same 93 = .ok (.invokevirtual 298, 3) := by decide +kernel
theorem dX11_same_96 : decode cX11_same 96 = .ok (.iload_n 2, 1) := by decide +kernel
theorem dX11_same_97 : decode cX11_same 97 = .ok (.invokestatic 144, 3) := by decide +kernel
theorem dX11_same_100 : decode cX11_same 100 = .ok (.ifCond .eq 7, 3) := by decide +kernel
theorem dX11_same_103 : decode cX11_same 103 = .ok (.iconst 1, 1) := by decide +kernel
theorem dX11_same_104 : decode cX11_same 104 = .ok (.goto 4, 3) := by decide +kernel
theorem dX11_same_107 : decode cX11_same 107 = .ok (.iconst 0, 1) := by decide +kernel
theorem dX11_same_108 : decode cX11_same 108 = .ok (.ireturn, 1) := by decide +kernel
theorem dX11_same_109 : decode cX11_same 109 = .ok (.bipush (-2), 2) := by decide +kernel
theorem dX11_same_111 : decode cX11_same 111 = .ok (.ireturn, 1) := by decide +kernel
theorem dX11_things_0 : decode cX11_things 0 = .ok (.iload_n 1, 1) := by decide +kernel
theorem dX11_things_1 : decode cX11_things 1 = .ok (.iconst (-1), 1) := by decide +kernel
theorem dX11_things_2 : decode cX11_things 2 = .ok (.if_icmp .eq 12, 3) := by decide +kernel
theorem dX11_things_5 : decode cX11_things 5 = .ok (.iload_n 1, 1) := by decide +kernel
theorem dX11_things_6 : decode cX11_things 6 = .ok (.bipush (-2), 2) := by decide +kernel
theorem dX11_things_8 : decode cX11_things 8 = .ok (.if_icmp .eq 6, 3) := by decide +kernel
theorem dX11_things_11 : decode cX11_things 11 = .ok (.bipush (-2), 2) := by decide +kernel
theorem dX11_things_13 : decode cX11_things 13 = .ok (.ireturn, 1) := by decide +kernel
theorem dX11_things_14 : decode cX11_things 14 = .ok (.aload_n 0, 1) := by decide +kernel
theorem dX11_things_15 : decode cX11_things 15 = .ok (.getfield 84, 3) := by decide +kernel
theorem dX11_things_18 : decode cX11_things 18 = .ok (.iload_n 1, 1) := by decide +kernel
theorem dX11_things_19 : decode cX11_things 19 = .ok (.bipush (-2), 2) := by decide +kernel
theorem dX11_things_21 : decode cX11_things 21 = .ok (.if_icmp .ne 7, 3) := by decide +kernel
theorem dX11_things_24 : decode cX11_things 24 = .ok (.iconst 1, 1) := by decide +kernel
theorem dX11_things_25 : decode cX11_things 25 = .ok (.goto 4, 3) := by decide +kernel
theorem dX11_things_28 : decode cX11_things 28 = .ok (.iconst 0, 1) := by decide +kernel
theorem dX11_things_29 : decode cX11_things 29 = .ok (.invokevirtual 301, 3) := by decide +kernel
theorem dX11_things_32 : decode cX11_things 32 = .ok (.ireturn, 1) := by decide +kernel
theorem dX11_count_0 : decode cX11_count 0 = .ok (.iload_n 1, 1) := by decide +kernel
theorem dX11_count_1 : decode cX11_count 1 = .ok (.tableswitch 144 0 10 #[59, 64, 72, 80, 88, 96, 104, 112, 120, 128, 136], 59) := by decide +kernel
theorem dX11_count_60 : decode cX11_count 60 = .ok (.aload_n 0, 1) := by decide +kernel
theorem dX11_count_61 : decode cX11_count 61 = .ok (.getfield 15, 3) := by decide +kernel
theorem dX11_count_64 : decode cX11_count 64 = .ok (.ireturn, 1) := by decide +kernel
theorem dX11_count_65 : decode cX11_count 65 = .ok (.aload_n 0, 1) := by decide +kernel
theorem dX11_count_66 : decode cX11_count 66 = .ok (.getfield 22, 3) := by decide +kernel
theorem dX11_count_69 : decode cX11_count 69 = .ok (.getfield 102, 3) := by decide +kernel
theorem dX11_count_72 : decode cX11_count 72 = .ok (.ireturn, 1) := by decide +kernel
theorem dX11_count_73 : decode cX11_count 73 = .ok (.aload_n 0, 1) := by decide +kernel
theorem dX11_count_74 : decode cX11_count 74 = .ok (.getfield 29, 3) := by decide +kernel
theorem dX11_count_77 : decode cX11_count 77 = .ok (.getfield 118, 3) := by decide +kernel
theorem dX11_count_80 : decode cX11_count 80 = .ok (.ireturn, 1) := by decide +kernel
theorem dX11_count_81 : decode cX11_count 81 = .ok (.aload_n 0, 1) := by decide +kernel
theorem dX11_count_82 : decode cX11_count 82 = .ok (.getfield 29, 3) := by decide +kernel
theorem dX11_count_85 : decode cX11_count 85 = .ok (.invokevirtual 161, 3) := by decide +kernel
theorem dX11_count_88 : decode cX11_count 88 = .ok (.ireturn, 1) := by decide +kernel
theorem dX11_count_89 : decode cX11_count 89 = .ok (.aload_n 0, 1) := by decide +kernel
theorem dX11_count_90 : decode cX11_count 90 = .ok (.getfield 52, 3) := by decide +kernel
theorem dX11_count_93 : decode cX11_count 93 = .ok (.getfield 218, 3) := by decide +kernel
theorem dX11_count_96 : decode cX11_count 96 = .ok (.ireturn, 1) := by decide +kernel
theorem dX11_count_97 : decode cX11_count 97 = .ok (.aload_n 0, 1) := by decide +kernel
theorem dX11_count_98 : decode cX11_count 98 = .ok (.getfield 61, 3) := by decide +kernel
theorem dX11_count_101 : decode cX11_count 101 = .ok (.getfield 240, 3) := by decide +kernel
theorem dX11_count_104 : decode cX11_count 104 = .ok (.ireturn, 1) := by decide +kernel
theorem dX11_count_105 : decode cX11_count 105 = .ok (.aload_n 0, 1) := by decide +kernel
theorem dX11_count_106 : decode cX11_count 106 = .ok (.getfield 77, 3) := by decide +kernel
theorem dX11_count_109 : decode cX11_count 109 = .ok (.getfield 267, 3) := by decide +kernel
theorem dX11_count_112 : decode cX11_count 112 = .ok (.ireturn, 1) := by decide +kernel
theorem dX11_count_113 : decode cX11_count 113 = .ok (.aload_n 0, 1) := by decide +kernel
theorem dX11_count_114 : decode cX11_count 114 = .ok (.getfield 84, 3) := by decide +kernel
theorem dX11_count_117 : decode cX11_count 117 = .ok (.getfield 289, 3) := by decide +kernel
theorem dX11_count_120 : decode cX11_count 120 = .ok (.ireturn, 1) := by decide +kernel
theorem dX11_count_121 : decode cX11_count 121 = .ok (.aload_n 0, 1) := by decide +kernel
theorem dX11_count_122 : decode cX11_count 122 = .ok (.getfield 52, 3) := by decide +kernel
theorem dX11_count_125 : decode cX11_count 125 = .ok (.getfield 201, 3) := by decide +kernel
theorem dX11_count_128 : decode cX11_count 128 = .ok (.ireturn, 1) := by decide +kernel
theorem dX11_count_129 : decode cX11_count 129 = .ok (.aload_n 0, 1) := by decide +kernel
theorem dX11_count_130 : decode cX11_count 130 = .ok (.getfield 45, 3) := by decide +kernel
theorem dX11_count_133 : decode cX11_count 133 = .ok (.getfield 196, 3) := by decide +kernel
theorem dX11_count_136 : decode cX11_count 136 = .ok (.ireturn, 1) := by decide +kernel
theorem dX11_count_137 : decode cX11_count 137 = .ok (.aload_n 0, 1) := by decide +kernel
theorem dX11_count_138 : decode cX11_count 138 = .ok (.getfield 38, 3) := by decide +kernel
theorem dX11_count_141 : decode cX11_count 141 = .ok (.getfield 109, 3) := by decide +kernel
theorem dX11_count_144 : decode cX11_count 144 = .ok (.ireturn, 1) := by decide +kernel
theorem dX11_count_145 : decode cX11_count 145 = .ok (.bipush (-2), 2) := by decide +kernel
theorem dX11_count_147 : decode cX11_count 147 = .ok (.ireturn, 1) := by decide +kernel
theorem dX11_sheet_0 : decode cX11_sheet 0 = .ok (.iload_n 1, 1) := by decide +kernel
theorem dX11_sheet_1 : decode cX11_sheet 1 = .ok (.invokestatic 305, 3) := by decide +kernel
theorem dX11_sheet_4 : decode cX11_sheet 4 = .ok (.ifCond .ne 6, 3) := by decide +kernel
theorem dX11_sheet_7 : decode cX11_sheet 7 = .ok (.bipush (-2), 2) := by decide +kernel
theorem dX11_sheet_9 : decode cX11_sheet 9 = .ok (.ireturn, 1) := by decide +kernel
theorem dX11_sheet_10 : decode cX11_sheet 10 = .ok (.iload_n 2, 1) := by decide +kernel
theorem dX11_sheet_11 : decode cX11_sheet 11 = .ok (.iconst (-1), 1) := by decide +kernel
theorem dX11_sheet_12 : decode cX11_sheet 12 = .ok (.if_icmp .ne 12, 3) := by decide +kernel
theorem dX11_sheet_15 : decode cX11_sheet 15 = .ok (.aload_n 0, 1) := by decide +kernel
theorem dX11_sheet_16 : decode cX11_sheet 16 = .ok (.getfield 91, 3) := by decide +kernel
theorem dX11_sheet_19 : decode cX11_sheet 19 = .ok (.iload_n 1, 1) := by decide +kernel
theorem dX11_sheet_20 : decode cX11_sheet 20 = .ok (.invokevirtual 308, 3) := by decide +kernel
theorem dX11_sheet_23 : decode cX11_sheet 23 = .ok (.ireturn, 1) := by decide +kernel
theorem dX11_sheet_24 : decode cX11_sheet 24 = .ok (.iload_n 2, 1) := by decide +kernel
theorem dX11_sheet_25 : decode cX11_sheet 25 = .ok (.invokestatic 311, 3) := by decide +kernel
theorem dX11_sheet_28 : decode cX11_sheet 28 = .ok (.ifCond .eq 9, 3) := by decide +kernel
theorem dX11_sheet_31 : decode cX11_sheet 31 = .ok (.iload_n 3, 1) := by decide +kernel
theorem dX11_sheet_32 : decode cX11_sheet 32 = .ok (.bipush 40, 2) := by decide +kernel
theorem dX11_sheet_34 : decode cX11_sheet 34 = .ok (.if_icmp .le 6, 3) := by decide +kernel
theorem dX11_sheet_37 : decode cX11_sheet 37 = .ok (.bipush (-2), 2) := by decide +kernel
theorem dX11_sheet_39 : decode cX11_sheet 39 = .ok (.ireturn, 1) := by decide +kernel
theorem dX11_sheet_40 : decode cX11_sheet 40 = .ok (.iload_n 3, 1) := by decide +kernel
theorem dX11_sheet_41 : decode cX11_sheet 41 = .ok (.ifCond .ge 6, 3) := by decide +kernel
theorem dX11_sheet_44 : decode cX11_sheet 44 = .ok (.bipush (-14), 2) := by decide +kernel
theorem dX11_sheet_46 : decode cX11_sheet 46 = .ok (.ireturn, 1) := by decide +kernel
theorem dX11_sheet_47 : decode cX11_sheet 47 = .ok (.aload_n 0, 1) := by decide +kernel
theorem dX11_sheet_48 : decode cX11_sheet 48 = .ok (.getfield 91, 3) := by decide +kernel
theorem dX11_sheet_51 : decode cX11_sheet 51 = .ok (.iload_n 1, 1) := by decide +kernel
theorem dX11_sheet_52 : decode cX11_sheet 52 = .ok (.iload_n 2, 1) := by decide +kernel
theorem dX11_sheet_53 : decode cX11_sheet 53 = .ok (.iload_n 3, 1) := by decide +kernel
theorem dX11_sheet_54 : decode cX11_sheet 54 = .ok (.invokevirtual 314, 3) := by decide +kernel
theorem dX11_sheet_57 : decode cX11_sheet 57 = .ok (.ireturn, 1) := by decide +kernel
theorem dX11_cell_0 : decode cX11_cell 0 = .ok (.iload_n 1, 1) := by decide +kernel
theorem dX11_cell_1 : decode cX11_cell 1 = .ok (.invokestatic 305, 3) := by decide +kernel
theorem dX11_cell_4 : decode cX11_cell 4 = .ok (.ifCond .ne 6, 3) := by decide +kernel
theorem dX11_cell_7 : decode cX11_cell 7 = .ok (.bipush (-2), 2) := by decide +kernel
theorem dX11_cell_9 : decode cX11_cell 9 = .ok (.ireturn, 1) := by decide +kernel
theorem dX11_cell_10 : decode cX11_cell 10 = .ok (.aload_n 0, 1) := by decide +kernel
theorem dX11_cell_11 : decode cX11_cell 11 = .ok (.getfield 91, 3) := by decide +kernel
theorem dX11_cell_14 : decode cX11_cell 14 = .ok (.iload_n 1, 1) := by decide +kernel
theorem dX11_cell_15 : decode cX11_cell 15 = .ok (.invokevirtual 317, 3) := by decide +kernel
theorem dX11_cell_18 : decode cX11_cell 18 = .ok (.ifCond .eq 6, 3) := by decide +kernel
theorem dX11_cell_21 : decode cX11_cell 21 = .ok (.bipush (-11), 2) := by decide +kernel
theorem dX11_cell_23 : decode cX11_cell 23 = .ok (.ireturn, 1) := by decide +kernel
theorem dX11_cell_24 : decode cX11_cell 24 = .ok (.aload_n 0, 1) := by decide +kernel
theorem dX11_cell_25 : decode cX11_cell 25 = .ok (.getfield 91, 3) := by decide +kernel
theorem dX11_cell_28 : decode cX11_cell 28 = .ok (.iload_n 1, 1) := by decide +kernel
theorem dX11_cell_29 : decode cX11_cell 29 = .ok (.iload_n 2, 1) := by decide +kernel
theorem dX11_cell_30 : decode cX11_cell 30 = .ok (.iconst 1, 1) := by decide +kernel
theorem dX11_cell_31 : decode cX11_cell 31 = .ok (.invokevirtual 320, 3) := by decide +kernel
theorem dX11_cell_34 : decode cX11_cell 34 = .ok (.ifCond .ne 6, 3) := by decide +kernel
theorem dX11_cell_37 : decode cX11_cell 37 = .ok (.bipush (-12), 2) := by decide +kernel
theorem dX11_cell_39 : decode cX11_cell 39 = .ok (.ireturn, 1) := by decide +kernel
theorem dX11_cell_40 : decode cX11_cell 40 = .ok (.aload_n 0, 1) := by decide +kernel
theorem dX11_cell_41 : decode cX11_cell 41 = .ok (.getfield 91, 3) := by decide +kernel
theorem dX11_cell_44 : decode cX11_cell 44 = .ok (.iload_n 1, 1) := by decide +kernel
theorem dX11_cell_45 : decode cX11_cell 45 = .ok (.iload_n 2, 1) := by decide +kernel
theorem dX11_cell_46 : decode cX11_cell 46 = .ok (.iload_n 3, 1) := by decide +kernel
theorem dX11_cell_47 : decode cX11_cell 47 = .ok (.invokevirtual 324, 3) := by decide +kernel
theorem dX11_cell_50 : decode cX11_cell 50 = .ok (.ireturn, 1) := by decide +kernel
theorem dX11_copy_0 : decode cX11_copy 0 = .ok (.iload_n 1, 1) := by decide +kernel
theorem dX11_copy_1 : decode cX11_copy 1 = .ok (.invokestatic 305, 3) := by decide +kernel
theorem dX11_copy_4 : decode cX11_copy 4 = .ok (.ifCond .eq 10, 3) := by decide +kernel
theorem dX11_copy_7 : decode cX11_copy 7 = .ok (.iload_n 3, 1) := by decide +kernel
theorem dX11_copy_8 : decode cX11_copy 8 = .ok (.invokestatic 305, 3) := by decide +kernel
theorem dX11_copy_11 : decode cX11_copy 11 = .ok (.ifCond .ne 6, 3) := by decide +kernel
theorem dX11_copy_14 : decode cX11_copy 14 = .ok (.bipush (-2), 2) := by decide +kernel
theorem dX11_copy_16 : decode cX11_copy 16 = .ok (.ireturn, 1) := by decide +kernel
theorem dX11_copy_17 : decode cX11_copy 17 = .ok (.aload_n 0, 1) := by decide +kernel
theorem dX11_copy_18 : decode cX11_copy 18 = .ok (.getfield 91, 3) := by decide +kernel
theorem dX11_copy_21 : decode cX11_copy 21 = .ok (.iload_n 1, 1) := by decide +kernel
theorem dX11_copy_22 : decode cX11_copy 22 = .ok (.invokevirtual 317, 3) := by decide +kernel
theorem dX11_copy_25 : decode cX11_copy 25 = .ok (.ifCond .ne 14, 3) := by decide +kernel
theorem dX11_copy_28 : decode cX11_copy 28 = .ok (.aload_n 0, 1) := by decide +kernel
theorem dX11_copy_29 : decode cX11_copy 29 = .ok (.getfield 91, 3) := by decide +kernel
theorem dX11_copy_32 : decode cX11_copy 32 = .ok (.iload_n 3, 1) := by decide +kernel
theorem dX11_copy_33 : decode cX11_copy 33 = .ok (.invokevirtual 317, 3) := by decide +kernel
theorem dX11_copy_36 : decode cX11_copy 36 = .ok (.ifCond .eq 6, 3) := by decide +kernel
theorem dX11_copy_39 : decode cX11_copy 39 = .ok (.bipush (-11), 2) := by decide +kernel
theorem dX11_copy_41 : decode cX11_copy 41 = .ok (.ireturn, 1) := by decide +kernel
theorem dX11_copy_42 : decode cX11_copy 42 = .ok (.aload_n 0, 1) := by decide +kernel
theorem dX11_copy_43 : decode cX11_copy 43 = .ok (.getfield 91, 3) := by decide +kernel
theorem dX11_copy_46 : decode cX11_copy 46 = .ok (.getfield 327, 3) := by decide +kernel
theorem dX11_copy_49 : decode cX11_copy 49 = .ok (.iload_n 1, 1) := by decide +kernel
theorem dX11_copy_50 : decode cX11_copy 50 = .ok (.iaload, 1) := by decide +kernel
theorem dX11_copy_51 : decode cX11_copy 51 = .ok (.aload_n 0, 1) := by decide +kernel
theorem dX11_copy_52 : decode cX11_copy 52 = .ok (.getfield 91, 3) := by decide +kernel
theorem dX11_copy_55 : decode cX11_copy 55 = .ok (.getfield 327, 3) := by decide +kernel
theorem dX11_copy_58 : decode cX11_copy 58 = .ok (.iload_n 3, 1) := by decide +kernel
theorem dX11_copy_59 : decode cX11_copy 59 = .ok (.iaload, 1) := by decide +kernel
theorem dX11_copy_60 : decode cX11_copy 60 = .ok (.if_icmp .eq 6, 3) := by decide +kernel
theorem dX11_copy_63 : decode cX11_copy 63 = .ok (.bipush (-13), 2) := by decide +kernel
theorem dX11_copy_65 : decode cX11_copy 65 = .ok (.ireturn, 1) := by decide +kernel
theorem dX11_copy_66 : decode cX11_copy 66 = .ok (.aload_n 0, 1) := by decide +kernel
theorem dX11_copy_67 : decode cX11_copy 67 = .ok (.getfield 91, 3) := by decide +kernel
theorem dX11_copy_70 : decode cX11_copy 70 = .ok (.iload_n 1, 1) := by decide +kernel
theorem dX11_copy_71 : decode cX11_copy 71 = .ok (.iload_n 2, 1) := by decide +kernel
theorem dX11_copy_72 : decode cX11_copy 72 = .ok (.iload 5, 2) := by decide +kernel
theorem dX11_copy_74 : decode cX11_copy 74 = .ok (.invokevirtual 320, 3) := by decide +kernel
theorem dX11_copy_77 : decode cX11_copy 77 = .ok (.ifCond .eq 18, 3) := by decide +kernel
theorem dX11_copy_80 : decode cX11_copy 80 = .ok (.aload_n 0, 1) := by decide +kernel
theorem dX11_copy_81 : decode cX11_copy 81 = .ok (.getfield 91, 3) := by decide +kernel
theorem dX11_copy_84 : decode cX11_copy 84 = .ok (.iload_n 3, 1) := by decide +kernel
theorem dX11_copy_85 : decode cX11_copy 85 = .ok (.iload 4, 2) := by decide +kernel
theorem dX11_copy_87 : decode cX11_copy 87 = .ok (.iload 5, 2) := by decide +kernel
theorem dX11_copy_89 : decode cX11_copy 89 = .ok (.invokevirtual 320, 3) := by decide +kernel
theorem dX11_copy_92 : decode cX11_copy 92 = .ok (.ifCond .ne 6, 3) := by decide +kernel
theorem dX11_copy_95 : decode cX11_copy 95 = .ok (.bipush (-12), 2) := by decide +kernel
theorem dX11_copy_97 : decode cX11_copy 97 = .ok (.ireturn, 1) := by decide +kernel
theorem dX11_copy_98 : decode cX11_copy 98 = .ok (.aload_n 0, 1) := by decide +kernel
theorem dX11_copy_99 : decode cX11_copy 99 = .ok (.getfield 91, 3) := by decide +kernel
theorem dX11_copy_102 : decode cX11_copy 102 = .ok (.iload_n 1, 1) := by decide +kernel
theorem dX11_copy_103 : decode cX11_copy 103 = .ok (.iload_n 2, 1) := by decide +kernel
theorem dX11_copy_104 : decode cX11_copy 104 = .ok (.iload_n 3, 1) := by decide +kernel
theorem dX11_copy_105 : decode cX11_copy 105 = .ok (.iload 4, 2) := by decide +kernel
theorem dX11_copy_107 : decode cX11_copy 107 = .ok (.iload 5, 2) := by decide +kernel
theorem dX11_copy_109 : decode cX11_copy 109 = .ok (.invokevirtual 330, 3) := by decide +kernel
theorem dX11_copy_112 : decode cX11_copy 112 = .ok (.ireturn, 1) := by decide +kernel
theorem dX11_papers_0 : decode cX11_papers 0 = .ok (.iload_n 1, 1) := by decide +kernel
theorem dX11_papers_1 : decode cX11_papers 1 = .ok (.invokestatic 305, 3) := by decide +kernel
theorem dX11_papers_4 : decode cX11_papers 4 = .ok (.ifCond .eq 10, 3) := by decide +kernel
theorem dX11_papers_7 : decode cX11_papers 7 = .ok (.iload_n 2, 1) := by decide +kernel
theorem dX11_papers_8 : decode cX11_papers 8 = .ok (.invokestatic 311, 3) := by decide +kernel
theorem dX11_papers_11 : decode cX11_papers 11 = .ok (.ifCond .ne 6, 3) := by decide +kernel
theorem dX11_papers_14 : decode cX11_papers 14 = .ok (.bipush (-2), 2) := by decide +kernel
theorem dX11_papers_16 : decode cX11_papers 16 = .ok (.ireturn, 1) := by decide +kernel
theorem dX11_papers_17 : decode cX11_papers 17 = .ok (.iload 4, 2) := by decide +kernel
theorem dX11_papers_19 : decode cX11_papers 19 = .ok (.ifCond .lt 10, 3) := by decide +kernel
theorem dX11_papers_22 : decode cX11_papers 22 = .ok (.iload 4, 2) := by decide +kernel
theorem dX11_papers_24 : decode cX11_papers 24 = .ok (.bipush 8, 2) := by decide +kernel
theorem dX11_papers_26 : decode cX11_papers 26 = .ok (.if_icmp .le 6, 3) := by decide +kernel
theorem dX11_papers_29 : decode cX11_papers 29 = .ok (.bipush (-2), 2) := by decide +kernel
theorem dX11_papers_31 : decode cX11_papers 31 = .ok (.ireturn, 1) := by decide +kernel
theorem dX11_papers_32 : decode cX11_papers 32 = .ok (.aload_n 0, 1) := by decide +kernel
theorem dX11_papers_33 : decode cX11_papers 33 = .ok (.getfield 91, 3) := by decide +kernel
theorem dX11_papers_36 : decode cX11_papers 36 = .ok (.iload_n 1, 1) := by decide +kernel
theorem dX11_papers_37 : decode cX11_papers 37 = .ok (.invokevirtual 317, 3) := by decide +kernel
theorem dX11_papers_40 : decode cX11_papers 40 = .ok (.ifCond .eq 6, 3) := by decide +kernel
theorem dX11_papers_43 : decode cX11_papers 43 = .ok (.bipush (-11), 2) := by decide +kernel
theorem dX11_papers_45 : decode cX11_papers 45 = .ok (.ireturn, 1) := by decide +kernel
theorem dX11_papers_46 : decode cX11_papers 46 = .ok (.aload_n 0, 1) := by decide +kernel
theorem dX11_papers_47 : decode cX11_papers 47 = .ok (.getfield 91, 3) := by decide +kernel
theorem dX11_papers_50 : decode cX11_papers 50 = .ok (.getfield 327, 3) := by decide +kernel
theorem dX11_papers_53 : decode cX11_papers 53 = .ok (.iload_n 1, 1) := by decide +kernel
theorem dX11_papers_54 : decode cX11_papers 54 = .ok (.iaload, 1) := by decide +kernel
theorem dX11_papers_55 : decode cX11_papers 55 = .ok (.iload_n 2, 1) := by decide +kernel
theorem dX11_papers_56 : decode cX11_papers 56 = .ok (.if_icmp .eq 6, 3) := by decide +kernel
theorem dX11_papers_59 : decode cX11_papers 59 = .ok (.bipush (-13), 2) := by decide +kernel
theorem dX11_papers_61 : decode cX11_papers 61 = .ok (.ireturn, 1) := by decide +kernel
theorem dX11_papers_62 : decode cX11_papers 62 = .ok (.iconst 0, 1) := by decide +kernel
theorem dX11_papers_63 : decode cX11_papers 63 = .ok (.istore 5, 2) := by decide +kernel
theorem dX11_papers_65 : decode cX11_papers 65 = .ok (.iload_n 3, 1) := by decide +kernel
theorem dX11_papers_66 : decode cX11_papers 66 = .ok (.istore 6, 2) := by decide +kernel
theorem dX11_papers_68 : decode cX11_papers 68 = .ok (.iconst 0, 1) := by decide +kernel
theorem dX11_papers_69 : decode cX11_papers 69 = .ok (.istore 7, 2) := by decide +kernel
theorem dX11_papers_71 : decode cX11_papers 71 = .ok (.iload 7, 2) := by decide +kernel
theorem dX11_papers_73 : decode cX11_papers 73 = .ok (.iload 4, 2) := by decide +kernel
theorem dX11_papers_75 : decode cX11_papers 75 = .ok (.if_icmp .ge 42, 3) := by decide +kernel
theorem dX11_papers_78 : decode cX11_papers 78 = .ok (.aload_n 0, 1) := by decide +kernel
theorem dX11_papers_79 : decode cX11_papers 79 = .ok (.getfield 91, 3) := by decide +kernel
theorem dX11_papers_82 : decode cX11_papers 82 = .ok (.iload_n 1, 1) := by decide +kernel
theorem dX11_papers_83 : decode cX11_papers 83 = .ok (.iload 6, 2) := by decide +kernel
theorem dX11_papers_85 : decode cX11_papers 85 = .ok (.iconst 5, 1) := by decide +kernel
theorem dX11_papers_86 : decode cX11_papers 86 = .ok (.invokevirtual 320, 3) := by decide +kernel
theorem dX11_papers_89 : decode cX11_papers 89 = .ok (.ifCond .ne 6, 3) := by decide +kernel
theorem dX11_papers_92 : decode cX11_papers 92 = .ok (.bipush (-12), 2) := by decide +kernel
theorem dX11_papers_94 : decode cX11_papers 94 = .ok (.ireturn, 1) := by decide +kernel
theorem dX11_papers_95 : decode cX11_papers 95 = .ok (.aload_n 0, 1) := by decide +kernel
theorem dX11_papers_96 : decode cX11_papers 96 = .ok (.iload_n 1, 1) := by decide +kernel
theorem dX11_papers_97 : decode cX11_papers 97 = .ok (.iload 6, 2) := by decide +kernel
theorem dX11_papers_99 : decode cX11_papers 99 = .ok (.invokevirtual 333, 3) := by decide +kernel
theorem dX11_papers_102 : decode cX11_papers 102 = .ok (.ifCond .lt 6, 3) := by decide +kernel
theorem dX11_papers_105 : decode cX11_papers 105 = .ok (.iinc 5 1, 3) := by decide +kernel
theorem dX11_papers_108 : decode cX11_papers 108 = .ok (.iinc 6 5, 3) := by decide +kernel
theorem dX11_papers_111 : decode cX11_papers 111 = .ok (.iinc 7 1, 3) := by decide +kernel
theorem dX11_papers_114 : decode cX11_papers 114 = .ok (.goto (-43), 3) := by decide +kernel
theorem dX11_papers_117 : decode cX11_papers 117 = .ok (.iload 5, 2) := by decide +kernel
theorem dX11_papers_119 : decode cX11_papers 119 = .ok (.ireturn, 1) := by decide +kernel
theorem dX11_taken_0 : decode cX11_taken 0 = .ok (.iload_n 2, 1) := by decide +kernel
theorem dX11_taken_1 : decode cX11_taken 1 = .ok (.ifCond .lt 9, 3) := by decide +kernel
theorem dX11_taken_4 : decode cX11_taken 4 = .ok (.iload_n 2, 1) := by decide +kernel
theorem dX11_taken_5 : decode cX11_taken 5 = .ok (.bipush 6, 2) := by decide +kernel
theorem dX11_taken_7 : decode cX11_taken 7 = .ok (.if_icmp .lt 6, 3) := by decide +kernel
theorem dX11_taken_10 : decode cX11_taken 10 = .ok (.bipush (-2), 2) := by decide +kernel
theorem dX11_taken_12 : decode cX11_taken 12 = .ok (.ireturn, 1) := by decide +kernel
theorem dX11_taken_13 : decode cX11_taken 13 = .ok (.aload_n 0, 1) := by decide +kernel
theorem dX11_taken_14 : decode cX11_taken 14 = .ok (.getfield 29, 3) := by decide +kernel
theorem dX11_taken_17 : decode cX11_taken 17 = .ok (.iload_n 1, 1) := by decide +kernel
theorem dX11_taken_18 : decode cX11_taken 18 = .ok (.invokevirtual 122, 3) := by decide +kernel
theorem dX11_taken_21 : decode cX11_taken 21 = .ok (.ifCond .ne 6, 3) := by decide +kernel
theorem dX11_taken_24 : decode cX11_taken 24 = .ok (.bipush (-11), 2) := by decide +kernel
theorem dX11_taken_26 : decode cX11_taken 26 = .ok (.ireturn, 1) := by decide +kernel
theorem dX11_taken_27 : decode cX11_taken 27 = .ok (.aload_n 0, 1) := by decide +kernel
theorem dX11_taken_28 : decode cX11_taken 28 = .ok (.getfield 29, 3) := by decide +kernel
theorem dX11_taken_31 : decode cX11_taken 31 = .ok (.getfield 125, 3) := by decide +kernel
theorem dX11_taken_34 : decode cX11_taken 34 = .ok (.iload_n 1, 1) := by decide +kernel
theorem dX11_taken_35 : decode cX11_taken 35 = .ok (.iaload, 1) := by decide +kernel
theorem dX11_taken_36 : decode cX11_taken 36 = .ok (.iload_n 2, 1) := by decide +kernel
theorem dX11_taken_37 : decode cX11_taken 37 = .ok (.invokestatic 336, 3) := by decide +kernel
theorem dX11_taken_40 : decode cX11_taken 40 = .ok (.ifCond .eq 15, 3) := by decide +kernel
theorem dX11_taken_43 : decode cX11_taken 43 = .ok (.aload_n 0, 1) := by decide +kernel
theorem dX11_taken_44 : decode cX11_taken 44 = .ok (.getfield 29, 3) := by decide +kernel
theorem dX11_taken_47 : decode cX11_taken 47 = .ok (.getfield 129, 3) := by decide +kernel
theorem dX11_taken_50 : decode cX11_taken 50 = .ok (.iload_n 1, 1) := by decide +kernel
theorem dX11_taken_51 : decode cX11_taken 51 = .ok (.iaload, 1) := by decide +kernel
theorem dX11_taken_52 : decode cX11_taken 52 = .ok (.goto 5, 3) := by decide +kernel
theorem dX11_taken_55 : decode cX11_taken 55 = .ok (.bipush (-13), 2) := by decide +kernel
theorem dX11_taken_57 : decode cX11_taken 57 = .ok (.ireturn, 1) := by decide +kernel
theorem dX11_giveAll_0 : decode cX11_giveAll 0 = .ok (.aload_n 0, 1) := by decide +kernel
theorem dX11_giveAll_1 : decode cX11_giveAll 1 = .ok (.getfield 38, 3) := by decide +kernel
theorem dX11_giveAll_4 : decode cX11_giveAll 4 = .ok (.invokevirtual 169, 3) := by decide +kernel
theorem dX11_giveAll_7 : decode cX11_giveAll 7 = .ok (.aload_n 0, 1) := by decide +kernel
theorem dX11_giveAll_8 : decode cX11_giveAll 8 = .ok (.getfield 61, 3) := by decide +kernel
theorem dX11_giveAll_11 : decode cX11_giveAll 11 = .ok (.iconst (-1), 1) := by decide +kernel
theorem dX11_giveAll_12 : decode cX11_giveAll 12 = .ok (.invokevirtual 339, 3) := by decide +kernel
theorem dX11_giveAll_15 : decode cX11_giveAll 15 = .ok (.return_, 1) := by decide +kernel
theorem dX11_paperFrom_0 : decode cX11_paperFrom 0 = .ok (.aload_n 0, 1) := by decide +kernel
theorem dX11_paperFrom_1 : decode cX11_paperFrom 1 = .ok (.aload_n 0, 1) := by decide +kernel
theorem dX11_paperFrom_2 : decode cX11_paperFrom 2 = .ok (.getfield 91, 3) := by decide +kernel
theorem dX11_paperFrom_5 : decode cX11_paperFrom 5 = .ok (.iload_n 1, 1) := by decide +kernel
theorem dX11_paperFrom_6 : decode cX11_paperFrom 6 = .ok (.iload_n 2, 1) := by decide +kernel
theorem dX11_paperFrom_7 : decode cX11_paperFrom 7 = .ok (.invokevirtual 343, 3) := by decide +kernel
theorem dX11_paperFrom_10 : decode cX11_paperFrom 10 = .ok (.aload_n 0, 1) := by decide +kernel
theorem dX11_paperFrom_11 : decode cX11_paperFrom 11 = .ok (.getfield 91, 3) := by decide +kernel
theorem dX11_paperFrom_14 : decode cX11_paperFrom 14 = .ok (.iload_n 1, 1) := by decide +kernel
theorem dX11_paperFrom_15 : decode cX11_paperFrom 15 = .ok (.iload_n 2, 1) := by decide +kernel
theorem dX11_paperFrom_16 : decode cX11_paperFrom 16 = .ok (.iconst 1, 1) := by decide +kernel
theorem dX11_paperFrom_17 : decode cX11_paperFrom 17 = .ok (.iadd, 1) := by decide +kernel
theorem dX11_paperFrom_18 : decode cX11_paperFrom 18 = .ok (.invokevirtual 343, 3) := by decide +kernel
theorem dX11_paperFrom_21 : decode cX11_paperFrom 21 = .ok (.aload_n 0, 1) := by decide +kernel
theorem dX11_paperFrom_22 : decode cX11_paperFrom 22 = .ok (.getfield 91, 3) := by decide +kernel
theorem dX11_paperFrom_25 : decode cX11_paperFrom 25 = .ok (.iload_n 1, 1) := by decide +kernel
theorem dX11_paperFrom_26 : decode cX11_paperFrom 26 = .ok (.iload_n 2, 1) := by decide +kernel
theorem dX11_paperFrom_27 : decode cX11_paperFrom 27 = .ok (.iconst 2, 1) := by decide +kernel
theorem dX11_paperFrom_28 : decode cX11_paperFrom 28 = .ok (.iadd, 1) := by decide +kernel
theorem dX11_paperFrom_29 : decode cX11_paperFrom 29 = .ok (.invokevirtual 343, 3) := by decide +kernel
theorem dX11_paperFrom_32 : decode cX11_paperFrom 32 = .ok (.aload_n 0, 1) := by decide +kernel
theorem dX11_paperFrom_33 : decode cX11_paperFrom 33 = .ok (.getfield 91, 3) := by decide +kernel
theorem dX11_paperFrom_36 : decode cX11_paperFrom 36 = .ok (.iload_n 1, 1) := by decide +kernel
theorem dX11_paperFrom_37 : decode cX11_paperFrom 37 = .ok (.iload_n 2, 1) := by decide +kernel
theorem dX11_paperFrom_38 : decode cX11_paperFrom 38 = .ok (.iconst 3, 1) := by decide +kernel
theorem dX11_paperFrom_39 : decode cX11_paperFrom 39 = .ok (.iadd, 1) := by decide +kernel
theorem dX11_paperFrom_40 : decode cX11_paperFrom 40 = .ok (.invokevirtual 343, 3) := by decide +kernel
theorem dX11_paperFrom_43 : decode cX11_paperFrom 43 = .ok (.aload_n 0, 1) := by decide +kernel
theorem dX11_paperFrom_44 : decode cX11_paperFrom 44 = .ok (.getfield 91, 3) := by decide +kernel
theorem dX11_paperFrom_47 : decode cX11_paperFrom 47 = .ok (.iload_n 1, 1) := by decide +kernel
theorem dX11_paperFrom_48 : decode cX11_paperFrom 48 = .ok (.iload_n 2, 1) := by decide +kernel
theorem dX11_paperFrom_49 : decode cX11_paperFrom 49 = .ok (.iconst 4, 1) := by decide +kernel
theorem dX11_paperFrom_50 : decode cX11_paperFrom 50 = .ok (.iadd, 1) := by decide +kernel
theorem dX11_paperFrom_51 : decode cX11_paperFrom 51 = .ok (.invokevirtual 343, 3) := by decide +kernel
theorem dX11_paperFrom_54 : decode cX11_paperFrom 54 = .ok (.invokevirtual 346, 3) := by decide +kernel
theorem dX11_paperFrom_57 : decode cX11_paperFrom 57 = .ok (.ireturn, 1) := by decide +kernel
theorem dX11_isPeriod_0 : decode cX11_isPeriod 0 = .ok (.iload_n 1, 1) := by decide +kernel
theorem dX11_isPeriod_1 : decode cX11_isPeriod 1 = .ok (.ifCond .lt 15, 3) := by decide +kernel
theorem dX11_isPeriod_4 : decode cX11_isPeriod 4 = .ok (.iload_n 1, 1) := by decide +kernel
theorem dX11_isPeriod_5 : decode cX11_isPeriod 5 = .ok (.aload_n 0, 1) := by decide +kernel
theorem dX11_isPeriod_6 : decode cX11_isPeriod 6 = .ok (.getfield 15, 3) := by decide +kernel
theorem dX11_isPeriod_9 : decode cX11_isPeriod 9 = .ok (.if_icmp .ge 7, 3) := by decide +kernel
theorem dX11_isPeriod_12 : decode cX11_isPeriod 12 = .ok (.iconst 1, 1) := by decide +kernel
theorem dX11_isPeriod_13 : decode cX11_isPeriod 13 = .ok (.goto 4, 3) := by decide +kernel
theorem dX11_isPeriod_16 : decode cX11_isPeriod 16 = .ok (.iconst 0, 1) := by decide +kernel
theorem dX11_isPeriod_17 : decode cX11_isPeriod 17 = .ok (.ireturn, 1) := by decide +kernel
theorem dX11_isMovePeriod_0 : decode cX11_isMovePeriod 0 = .ok (.iload_n 1, 1) := by decide +kernel
theorem dX11_isMovePeriod_1 : decode cX11_isMovePeriod 1 = .ok (.ifCond .lt 17, 3) := by decide +kernel
theorem dX11_isMovePeriod_4 : decode cX11_isMovePeriod 4 = .ok (.iload_n 1, 1) := by decide +kernel
theorem dX11_isMovePeriod_5 : decode cX11_isMovePeriod 5 = .ok (.aload_n 0, 1) := by decide +kernel
theorem dX11_isMovePeriod_6 : decode cX11_isMovePeriod 6 = .ok (.getfield 15, 3) := by decide +kernel
theorem dX11_isMovePeriod_9 : decode cX11_isMovePeriod 9 = .ok (.iconst 1, 1) := by decide +kernel
theorem dX11_isMovePeriod_10 : decode cX11_isMovePeriod 10 = .ok (.isub, 1) := by decide +kernel
theorem dX11_isMovePeriod_11 : decode cX11_isMovePeriod 11 = .ok (.if_icmp .ge 7, 3) := by decide +kernel
theorem dX11_isMovePeriod_14 : decode cX11_isMovePeriod 14 = .ok (.iconst 1, 1) := by decide +kernel
theorem dX11_isMovePeriod_15 : decode cX11_isMovePeriod 15 = .ok (.goto 4, 3) := by decide +kernel
theorem dX11_isMovePeriod_18 : decode cX11_isMovePeriod 18 = .ok (.iconst 0, 1) := by decide +kernel
theorem dX11_isMovePeriod_19 : decode cX11_isMovePeriod 19 = .ok (.ireturn, 1) := by decide +kernel
theorem dX11_isPlace_0 : decode cX11_isPlace 0 = .ok (.iload_n 1, 1) := by decide +kernel
theorem dX11_isPlace_1 : decode cX11_isPlace 1 = .ok (.invokestatic 95, 3) := by decide +kernel
theorem dX11_isPlace_4 : decode cX11_isPlace 4 = .ok (.ifCond .eq 15, 3) := by decide +kernel
theorem dX11_isPlace_7 : decode cX11_isPlace 7 = .ok (.aload_n 0, 1) := by decide +kernel
theorem dX11_isPlace_8 : decode cX11_isPlace 8 = .ok (.iload_n 2, 1) := by decide +kernel
theorem dX11_isPlace_9 : decode cX11_isPlace 9 = .ok (.invokevirtual 112, 3) := by decide +kernel
theorem dX11_isPlace_12 : decode cX11_isPlace 12 = .ok (.ifCond .eq 7, 3) := by decide +kernel
theorem dX11_isPlace_15 : decode cX11_isPlace 15 = .ok (.iconst 1, 1) := by decide +kernel
theorem dX11_isPlace_16 : decode cX11_isPlace 16 = .ok (.goto 4, 3) := by decide +kernel
theorem dX11_isPlace_19 : decode cX11_isPlace 19 = .ok (.iconst 0, 1) := by decide +kernel
theorem dX11_isPlace_20 : decode cX11_isPlace 20 = .ok (.ireturn, 1) := by decide +kernel
theorem dX11_isLand_0 : decode cX11_isLand 0 = .ok (.iload_n 0, 1) := by decide +kernel
theorem dX11_isLand_1 : decode cX11_isLand 1 = .ok (.ifCond .lt 12, 3) := by decide +kernel
theorem dX11_isLand_4 : decode cX11_isLand 4 = .ok (.iload_n 0, 1) := by decide +kernel
theorem dX11_isLand_5 : decode cX11_isLand 5 = .ok (.iconst 5, 1) := by decide +kernel
theorem dX11_isLand_6 : decode cX11_isLand 6 = .ok (.if_icmp .ge 7, 3) := by decide +kernel
theorem dX11_isLand_9 : decode cX11_isLand 9 = .ok (.iconst 1, 1) := by decide +kernel
theorem dX11_isLand_10 : decode cX11_isLand 10 = .ok (.goto 4, 3) := by decide +kernel
theorem dX11_isLand_13 : decode cX11_isLand 13 = .ok (.iconst 0, 1) := by decide +kernel
theorem dX11_isLand_14 : decode cX11_isLand 14 = .ok (.ireturn, 1) := by decide +kernel
theorem dX11_place_0 : decode cX11_place 0 = .ok (.iload_n 1, 1) := by decide +kernel
theorem dX11_place_1 : decode cX11_place 1 = .ok (.iconst 5, 1) := by decide +kernel
theorem dX11_place_2 : decode cX11_place 2 = .ok (.imul, 1) := by decide +kernel
theorem dX11_place_3 : decode cX11_place 3 = .ok (.iload_n 0, 1) := by decide +kernel
theorem dX11_place_4 : decode cX11_place 4 = .ok (.iadd, 1) := by decide +kernel
theorem dX11_place_5 : decode cX11_place 5 = .ok (.ireturn, 1) := by decide +kernel
theorem dX11_isIn_0 : decode cX11_isIn 0 = .ok (.iload_n 0, 1) := by decide +kernel
theorem dX11_isIn_1 : decode cX11_isIn 1 = .ok (.iload_n 1, 1) := by decide +kernel
theorem dX11_isIn_2 : decode cX11_isIn 2 = .ok (.ishr, 1) := by decide +kernel
theorem dX11_isIn_3 : decode cX11_isIn 3 = .ok (.iconst 1, 1) := by decide +kernel
theorem dX11_isIn_4 : decode cX11_isIn 4 = .ok (.iand, 1) := by decide +kernel
theorem dX11_isIn_5 : decode cX11_isIn 5 = .ok (.iconst 1, 1) := by decide +kernel
theorem dX11_isIn_6 : decode cX11_isIn 6 = .ok (.if_icmp .ne 7, 3) := by decide +kernel
theorem dX11_isIn_9 : decode cX11_isIn 9 = .ok (.iconst 1, 1) := by decide +kernel
theorem dX11_isIn_10 : decode cX11_isIn 10 = .ok (.goto 4, 3) := by decide +kernel
theorem dX11_isIn_13 : decode cX11_isIn 13 = .ok (.iconst 0, 1) := by decide +kernel
theorem dX11_isIn_14 : decode cX11_isIn 14 = .ok (.ireturn, 1) := by decide +kernel
theorem dX12_in_0 : decode cX12_in 0 = .ok (.iload_n 0, 1) := by decide +kernel
theorem dX12_in_1 : decode cX12_in 1 = .ok (.iload_n 1, 1) := by decide +kernel
theorem dX12_in_2 : decode cX12_in 2 = .ok (.if_icmp .lt 12, 3) := by decide +kernel
theorem dX12_in_5 : decode cX12_in 5 = .ok (.iload_n 0, 1) := by decide +kernel
theorem dX12_in_6 : decode cX12_in 6 = .ok (.iload_n 2, 1) := by decide +kernel
theorem dX12_in_7 : decode cX12_in 7 = .ok (.if_icmp .gt 7, 3) := by decide +kernel
theorem dX12_in_10 : decode cX12_in 10 = .ok (.iconst 1, 1) := by decide +kernel
theorem dX12_in_11 : decode cX12_in 11 = .ok (.goto 4, 3) := by decide +kernel
theorem dX12_in_14 : decode cX12_in 14 = .ok (.iconst 0, 1) := by decide +kernel
theorem dX12_in_15 : decode cX12_in 15 = .ok (.ireturn, 1) := by decide +kernel
theorem dX12_init_0 : decode cX12_init 0 = .ok (.aload_n 0, 1) := by decide +kernel
theorem dX12_init_1 : decode cX12_init 1 = .ok (.invokespecial 7, 3) := by decide +kernel
theorem dX12_init_4 : decode cX12_init 4 = .ok (.aload_n 0, 1) := by decide +kernel
theorem dX12_init_5 : decode cX12_init 5 = .ok (.bipush 20, 2) := by decide +kernel
theorem dX12_init_7 : decode cX12_init 7 = .ok (.newarray .int, 2) := by decide +kernel
theorem dX12_init_9 : decode cX12_init 9 = .ok (.putfield 13, 3) := by decide +kernel
theorem dX12_init_12 : decode cX12_init 12 = .ok (.aload_n 0, 1) := by decide +kernel
theorem dX12_init_13 : decode cX12_init 13 = .ok (.bipush 20, 2) := by decide +kernel
theorem dX12_init_15 : decode cX12_init 15 = .ok (.newarray .int, 2) := by decide +kernel
theorem dX12_init_17 : decode cX12_init 17 = .ok (.putfield 17, 3) := by decide +kernel
theorem dX12_init_20 : decode cX12_init 20 = .ok (.aload_n 0, 1) := by decide +kernel
theorem dX12_init_21 : decode cX12_init 21 = .ok (.bipush 20, 2) := by decide +kernel
theorem dX12_init_23 : decode cX12_init 23 = .ok (.newarray .int, 2) := by decide +kernel
theorem dX12_init_25 : decode cX12_init 25 = .ok (.putfield 20, 3) := by decide +kernel
theorem dX12_init_28 : decode cX12_init 28 = .ok (.aload_n 0, 1) := by decide +kernel
theorem dX12_init_29 : decode cX12_init 29 = .ok (.bipush 20, 2) := by decide +kernel
theorem dX12_init_31 : decode cX12_init 31 = .ok (.newarray .int, 2) := by decide +kernel
theorem dX12_init_33 : decode cX12_init 33 = .ok (.putfield 23, 3) := by decide +kernel
theorem dX12_init_36 : decode cX12_init 36 = .ok (.aload_n 0, 1) := by decide +kernel
theorem dX12_init_37 : decode cX12_init 37 = .ok (.bipush 16, 2) := by decide +kernel
theorem dX12_init_39 : decode cX12_init 39 = .ok (.newarray .int, 2) := by decide +kernel
theorem dX12_init_41 : decode cX12_init 41 = .ok (.putfield 26, 3) := by decide +kernel
theorem dX12_init_44 : decode cX12_init 44 = .ok (.aload_n 0, 1) := by decide +kernel
theorem dX12_init_45 : decode cX12_init 45 = .ok (.bipush 16, 2) := by decide +kernel
theorem dX12_init_47 : decode cX12_init 47 = .ok (.newarray .int, 2) := by decide +kernel
theorem dX12_init_49 : decode cX12_init 49 = .ok (.putfield 29, 3) := by decide +kernel
theorem dX12_init_52 : decode cX12_init 52 = .ok (.aload_n 0, 1) := by decide +kernel
theorem dX12_init_53 : decode cX12_init 53 = .ok (.bipush 16, 2) := by decide +kernel
theorem dX12_init_55 : decode cX12_init 55 = .ok (.newarray .int, 2) := by decide +kernel
theorem dX12_init_57 : decode cX12_init 57 = .ok (.putfield 32, 3) := by decide +kernel
theorem dX12_init_60 : decode cX12_init 60 = .ok (.aload_n 0, 1) := by decide +kernel
theorem dX12_init_61 : decode cX12_init 61 = .ok (.bipush 16, 2) := by decide +kernel
theorem dX12_init_63 : decode cX12_init 63 = .ok (.newarray .int, 2) := by decide +kernel
theorem dX12_init_65 : decode cX12_init 65 = .ok (.putfield 35, 3) := by decide +kernel
theorem dX12_init_68 : decode cX12_init 68 = .ok (.aload_n 0, 1) := by decide +kernel
theorem dX12_init_69 : decode cX12_init 69 = .ok (.bipush 16, 2) := by decide +kernel
theorem dX12_init_71 : decode cX12_init 71 = .ok (.newarray .int, 2) := by decide +kernel
theorem dX12_init_73 : decode cX12_init 73 = .ok (.putfield 38, 3) := by decide +kernel
theorem dX12_init_76 : decode cX12_init 76 = .ok (.aload_n 0, 1) := by decide +kernel
theorem dX12_init_77 : decode cX12_init 77 = .ok (.bipush 16, 2) := by decide +kernel
theorem dX12_init_79 : decode cX12_init 79 = .ok (.newarray .boolean, 2) := by decide +kernel
theorem dX12_init_81 : decode cX12_init 81 = .ok (.putfield 41, 3) := by decide +kernel
theorem dX12_init_84 : decode cX12_init 84 = .ok (.aload_n 0, 1) := by decide +kernel
theorem dX12_init_85 : decode cX12_init 85 = .ok (.bipush 60, 2) := by decide +kernel
theorem dX12_init_87 : decode cX12_init 87 = .ok (.newarray .boolean, 2) := by decide +kernel
theorem dX12_init_89 : decode cX12_init 89 = .ok (.putfield 45, 3) := by decide +kernel
theorem dX12_init_92 : decode cX12_init 92 = .ok (.aload_n 0, 1) := by decide +kernel
theorem dX12_init_93 : decode cX12_init 93 = .ok (.sipush 300, 3) := by decide +kernel
theorem dX12_init_96 : decode cX12_init 96 = .ok (.newarray .boolean, 2) := by decide +kernel
theorem dX12_init_98 : decode cX12_init 98 = .ok (.putfield 48, 3) := by decide +kernel
theorem dX12_init_101 : decode cX12_init 101 = .ok (.aload_n 0, 1) := by decide +kernel
theorem dX12_init_102 : decode cX12_init 102 = .ok (.bipush 60, 2) := by decide +kernel
theorem dX12_init_104 : decode cX12_init 104 = .ok (.newarray .long, 2) := by decide +kernel
theorem dX12_init_106 : decode cX12_init 106 = .ok (.putfield 51, 3) := by decide +kernel
theorem dX12_init_109 : decode cX12_init 109 = .ok (.aload_n 0, 1) := by decide +kernel
theorem dX12_init_110 : decode cX12_init 110 = .ok (.bipush 60, 2) := by decide +kernel
theorem dX12_init_112 : decode cX12_init 112 = .ok (.newarray .long, 2) := by decide +kernel
theorem dX12_init_114 : decode cX12_init 114 = .ok (.putfield 55, 3) := by decide +kernel
theorem dX12_init_117 : decode cX12_init 117 = .ok (.aload_n 0, 1) := by decide +kernel
theorem dX12_init_118 : decode cX12_init 118 = .ok (.bipush 60, 2) := by decide +kernel
theorem dX12_init_120 : decode cX12_init 120 = .ok (.newarray .long, 2) := by decide +kernel
theorem dX12_init_122 : decode cX12_init 122 = .ok (.putfield 58, 3) := by decide +kernel
theorem dX12_init_125 : decode cX12_init 125 = .ok (.aload_n 0, 1) := by decide +kernel
theorem dX12_init_126 : decode cX12_init 126 = .ok (.sipush 3600, 3) := by decide +kernel
theorem dX12_init_129 : decode cX12_init 129 = .ok (.newarray .long, 2) := by decide +kernel
theorem dX12_init_131 : decode cX12_init 131 = .ok (.putfield 61, 3) := by decide +kernel
theorem dX12_init_134 : decode cX12_init 134 = .ok (.aload_n 0, 1) := by decide +kernel
theorem dX12_init_135 : decode cX12_init 135 = .ok (.sipush 960, 3) := by decide +kernel
theorem dX12_init_138 : decode cX12_init 138 = .ok (.newarray .int, 2) := by decide +kernel
theorem dX12_init_140 : decode cX12_init 140 = .ok (.putfield 64, 3) := by decide +kernel
theorem dX12_init_143 : decode cX12_init 143 = .ok (.aload_n 0, 1) := by decide +kernel
theorem dX12_init_144 : decode cX12_init 144 = .ok (.bipush 6, 2) := by decide +kernel
theorem dX12_init_146 : decode cX12_init 146 = .ok (.newarray .int, 2) := by decide +kernel
theorem dX12_init_148 : decode cX12_init 148 = .ok (.putfield 67, 3) := by decide +kernel
theorem dX12_init_151 : decode cX12_init 151 = .ok (.aload_n 0, 1) := by decide +kernel
theorem dX12_init_152 : decode cX12_init 152 = .ok (.sipush 160, 3) := by decide +kernel
theorem dX12_init_155 : decode cX12_init 155 = .ok (.newarray .int, 2) := by decide +kernel
theorem dX12_init_157 : decode cX12_init 157 = .ok (.putfield 70, 3) := by decide +kernel
theorem dX12_init_160 : decode cX12_init 160 = .ok (.aload_n 0, 1) := by decide +kernel
theorem dX12_init_161 : decode cX12_init 161 = .ok (.bipush 20, 2) := by decide +kernel
theorem dX12_init_163 : decode cX12_init 163 = .ok (.newarray .int, 2) := by decide +kernel
theorem dX12_init_165 : decode cX12_init 165 = .ok (.putfield 73, 3) := by decide +kernel
theorem dX12_init_168 : decode cX12_init 168 = .ok (.aload_n 0, 1) := by decide +kernel
theorem dX12_init_169 : decode cX12_init 169 = .ok (.bipush 20, 2) := by decide +kernel
theorem dX12_init_171 : decode cX12_init 171 = .ok (.newarray .int, 2) := by decide +kernel
theorem dX12_init_173 : decode cX12_init 173 = .ok (.putfield 76, 3) := by decide +kernel
theorem dX12_init_176 : decode cX12_init 176 = .ok (.aload_n 0, 1) := by decide +kernel
theorem dX12_init_177 : decode cX12_init 177 = .ok (.bipush 20, 2) := by decide +kernel
theorem dX12_init_179 : decode cX12_init 179 = .ok (.newarray .int, 2) := by decide +kernel
theorem dX12_init_181 : decode cX12_init 181 = .ok (.putfield 79, 3) := by decide +kernel
theorem dX12_init_184 : decode cX12_init 184 = .ok (.aload_n 0, 1) := by decide +kernel
theorem dX12_init_185 : decode cX12_init 185 = .ok (.sipush 300, 3) := by decide +kernel
theorem dX12_init_188 : decode cX12_init 188 = .ok (.newarray .boolean, 2) := by decide +kernel
theorem dX12_init_190 : decode cX12_init 190 = .ok (.putfield 82, 3) := by decide +kernel
theorem dX12_init_193 : decode cX12_init 193 = .ok (.aload_n 0, 1) := by decide +kernel
theorem dX12_init_194 : decode cX12_init 194 = .ok (.bipush 60, 2) := by decide +kernel
theorem dX12_init_196 : decode cX12_init 196 = .ok (.newarray .long, 2) := by decide +kernel
theorem dX12_init_198 : decode cX12_init 198 = .ok (.putfield 85, 3) := by decide +kernel
theorem dX12_init_201 : decode cX12_init 201 = .ok (.aload_n 0, 1) := by decide +kernel
theorem dX12_init_202 : decode cX12_init 202 = .ok (.iconst 5, 1) := by decide +kernel
theorem dX12_init_203 : decode cX12_init 203 = .ok (.newarray .long, 2) := by decide +kernel
theorem dX12_init_205 : decode cX12_init 205 = .ok (.putfield 88, 3) := by decide +kernel
theorem dX12_init_208 : decode cX12_init 208 = .ok (.aload_n 0, 1) := by decide +kernel
theorem dX12_init_209 : decode cX12_init 209 = .ok (.bipush 60, 2) := by decide +kernel
theorem dX12_init_211 : decode cX12_init 211 = .ok (.newarray .long, 2) := by decide +kernel
theorem dX12_init_213 : decode cX12_init 213 = .ok (.putfield 91, 3) := by decide +kernel
theorem dX12_init_216 : decode cX12_init 216 = .ok (.aload_n 0, 1) := by decide +kernel
theorem dX12_init_217 : decode cX12_init 217 = .ok (.bipush 8, 2) := by decide +kernel
theorem dX12_init_219 : decode cX12_init 219 = .ok (.newarray .int, 2) := by decide +kernel
theorem dX12_init_221 : decode cX12_init 221 = .ok (.putfield 94, 3) := by decide +kernel
theorem dX12_init_224 : decode cX12_init 224 = .ok (.aload_n 0, 1) := by decide +kernel
theorem dX12_init_225 : decode cX12_init 225 = .ok (.bipush 8, 2) := by decide +kernel
theorem dX12_init_227 : decode cX12_init 227 = .ok (.newarray .int, 2) := by decide +kernel
theorem dX12_init_229 : decode cX12_init 229 = .ok (.putfield 97, 3) := by decide +kernel
theorem dX12_init_232 : decode cX12_init 232 = .ok (.aload_n 0, 1) := by decide +kernel
theorem dX12_init_233 : decode cX12_init 233 = .ok (.sipush 2048, 3) := by decide +kernel
theorem dX12_init_236 : decode cX12_init 236 = .ok (.newarray .int, 2) := by decide +kernel
theorem dX12_init_238 : decode cX12_init 238 = .ok (.putfield 100, 3) := by decide +kernel
theorem dX12_init_241 : decode cX12_init 241 = .ok (.aload_n 0, 1) := by decide +kernel
theorem dX12_init_242 : decode cX12_init 242 = .ok (.bipush 10, 2) := by decide +kernel
theorem dX12_init_244 : decode cX12_init 244 = .ok (.newarray .int, 2) := by decide +kernel
theorem dX12_init_246 : decode cX12_init 246 = .ok (.putfield 103, 3) := by decide +kernel
theorem dX12_init_249 : decode cX12_init 249 = .ok (.aload_n 0, 1) := by decide +kernel
theorem dX12_init_250 : decode cX12_init 250 = .ok (.bipush 10, 2) := by decide +kernel
theorem dX12_init_252 : decode cX12_init 252 = .ok (.newarray .int, 2) := by decide +kernel
theorem dX12_init_254 : decode cX12_init 254 = .ok (.putfield 106, 3) := by decide +kernel
theorem dX12_init_257 : decode cX12_init 257 = .ok (.aload_n 0, 1) := by decide +kernel
theorem dX12_init_258 : decode cX12_init 258 = .ok (.bipush 10, 2) := by decide +kernel
theorem dX12_init_260 : decode cX12_init 260 = .ok (.newarray .int, 2) := by decide +kernel
theorem dX12_init_262 : decode cX12_init 262 = .ok (.putfield 109, 3) := by decide +kernel
theorem dX12_init_265 : decode cX12_init 265 = .ok (.aload_n 0, 1) := by decide +kernel
theorem dX12_init_266 : decode cX12_init 266 = .ok (.iconst 4, 1) := by decide +kernel
theorem dX12_init_267 : decode cX12_init 267 = .ok (.newarray .boolean, 2) := by decide +kernel
theorem dX12_init_269 : decode cX12_init 269 = .ok (.putfield 112, 3) := by decide +kernel
theorem dX12_init_272 : decode cX12_init 272 = .ok (.aload_n 0, 1) := by decide +kernel
end
section
theorem dX12_init_273 : decode cX12_init 273 = .ok (.iconst 4, 1) := by decide +kernel
theorem dX12_init_274 : decode cX12_init 274 = .ok (.newarray .int, 2) := by decide +kernel
theorem dX12_init_276 : decode cX12_init 276 = .ok (.putfield 115, 3) := by decide +kernel
theorem dX12_init_279 : decode cX12_init 279 = .ok (.aload_n 0, 1) := by decide +kernel
theorem dX12_init_280 : decode cX12_init 280 = .ok (.iconst 4, 1) := by decide +kernel
theorem dX12_init_281 : decode cX12_init 281 = .ok (.newarray .int, 2) := by decide +kernel
theorem dX12_init_283 : decode cX12_init 283 = .ok (.putfield 118, 3) := by decide +kernel
theorem dX12_init_286 : decode cX12_init 286 = .ok (.aload_n 0, 1) := by decide +kernel
theorem dX12_init_287 : decode cX12_init 287 = .ok (.sipush 160, 3) := by decide +kernel
theorem dX12_init_290 : decode cX12_init 290 = .ok (.newarray .int, 2) := by decide +kernel
theorem dX12_init_292 : decode cX12_init 292 = .ok (.putfield 121, 3) := by decide +kernel
theorem dX12_init_295 : decode cX12_init 295 = .ok (.iload_n 1, 1) := by decide +kernel
theorem dX12_init_296 : decode cX12_init 296 = .ok (.bipush 11, 2) := by decide +kernel
theorem dX12_init_298 : decode cX12_init 298 = .ok (.irem, 1) := by decide +kernel
theorem dX12_init_299 : decode cX12_init 299 = .ok (.istore_n 2, 1) := by decide +kernel
theorem dX12_init_300 : decode cX12_init 300 = .ok (.aload_n 0, 1) := by decide +kernel
theorem dX12_init_301 : decode cX12_init 301 = .ok (.iconst 2, 1) := by decide +kernel
theorem dX12_init_302 : decode cX12_init 302 = .ok (.iload_n 2, 1) := by decide +kernel
theorem dX12_init_303 : decode cX12_init 303 = .ok (.ifCond .ge 10, 3) := by decide +kernel
theorem dX12_init_306 : decode cX12_init 306 = .ok (.iload_n 2, 1) := by decide +kernel
theorem dX12_init_307 : decode cX12_init 307 = .ok (.bipush 11, 2) := by decide +kernel
theorem dX12_init_309 : decode cX12_init 309 = .ok (.iadd, 1) := by decide +kernel
theorem dX12_init_310 : decode cX12_init 310 = .ok (.goto 4, 3) := by decide +kernel
theorem dX12_init_313 : decode cX12_init 313 = .ok (.iload_n 2, 1) := by decide +kernel
theorem dX12_init_314 : decode cX12_init 314 = .ok (.iadd, 1) := by decide +kernel
theorem dX12_init_315 : decode cX12_init 315 = .ok (.putfield 124, 3) := by decide +kernel
theorem dX12_init_318 : decode cX12_init 318 = .ok (.aload_n 0, 1) := by decide +kernel
theorem dX12_init_319 : decode cX12_init 319 = .ok (.iconst 0, 1) := by decide +kernel
theorem dX12_init_320 : decode cX12_init 320 = .ok (.ldc2_w 127, 3) := by decide +kernel
theorem dX12_init_323 : decode cX12_init 323 = .ok (.invokevirtual 129, 3) := by decide +kernel
theorem dX12_init_326 : decode cX12_init 326 = .ok (.aload_n 0, 1) := by decide +kernel
theorem dX12_init_327 : decode cX12_init 327 = .ok (.bipush 8, 2) := by decide +kernel
theorem dX12_init_329 : decode cX12_init 329 = .ok (.ldc2_w 133, 3) := by decide +kernel
theorem dX12_init_332 : decode cX12_init 332 = .ok (.invokevirtual 129, 3) := by decide +kernel
theorem dX12_init_335 : decode cX12_init 335 = .ok (.aload_n 0, 1) := by decide +kernel
theorem dX12_init_336 : decode cX12_init 336 = .ok (.bipush 16, 2) := by decide +kernel
theorem dX12_init_338 : decode cX12_init 338 = .ok (.ldc2_w 135, 3) := by decide +kernel
theorem dX12_init_341 : decode cX12_init 341 = .ok (.invokevirtual 129, 3) := by decide +kernel
theorem dX12_init_344 : decode cX12_init 344 = .ok (.aload_n 0, 1) := by decide +kernel
theorem dX12_init_345 : decode cX12_init 345 = .ok (.getfield 67, 3) := by decide +kernel
theorem dX12_init_348 : decode cX12_init 348 = .ok (.iconst 0, 1) := by decide +kernel
theorem dX12_init_349 : decode cX12_init 349 = .ok (.bipush 24, 2) := by decide +kernel
theorem dX12_init_351 : decode cX12_init 351 = .ok (.iastore, 1) := by decide +kernel
theorem dX12_init_352 : decode cX12_init 352 = .ok (.aload_n 0, 1) := by decide +kernel
theorem dX12_init_353 : decode cX12_init 353 = .ok (.iconst 1, 1) := by decide +kernel
theorem dX12_init_354 : decode cX12_init 354 = .ok (.putfield 137, 3) := by decide +kernel
theorem dX12_init_357 : decode cX12_init 357 = .ok (.aload_n 0, 1) := by decide +kernel
theorem dX12_init_358 : decode cX12_init 358 = .ok (.bipush 31, 2) := by decide +kernel
theorem dX12_init_360 : decode cX12_init 360 = .ok (.putfield 140, 3) := by decide +kernel
theorem dX12_init_363 : decode cX12_init 363 = .ok (.aload_n 0, 1) := by decide +kernel
theorem dX12_init_364 : decode cX12_init 364 = .ok (.iconst 3, 1) := by decide +kernel
theorem dX12_init_365 : decode cX12_init 365 = .ok (.putfield 143, 3) := by decide +kernel
theorem dX12_init_368 : decode cX12_init 368 = .ok (.return_, 1) := by decide +kernel
theorem dX12_spell_0 : decode cX12_spell 0 = .ok (.iconst 0, 1) := by decide +kernel
theorem dX12_spell_1 : decode cX12_spell 1 = .ok (.istore 4, 2) := by decide +kernel
theorem dX12_spell_3 : decode cX12_spell 3 = .ok (.iload 4, 2) := by decide +kernel
theorem dX12_spell_5 : decode cX12_spell 5 = .ok (.bipush 8, 2) := by decide +kernel
theorem dX12_spell_7 : decode cX12_spell 7 = .ok (.if_icmp .ge 33, 3) := by decide +kernel
theorem dX12_spell_10 : decode cX12_spell 10 = .ok (.aload_n 0, 1) := by decide +kernel
theorem dX12_spell_11 : decode cX12_spell 11 = .ok (.getfield 64, 3) := by decide +kernel
theorem dX12_spell_14 : decode cX12_spell 14 = .ok (.iload_n 1, 1) := by decide +kernel
theorem dX12_spell_15 : decode cX12_spell 15 = .ok (.iload 4, 2) := by decide +kernel
theorem dX12_spell_17 : decode cX12_spell 17 = .ok (.iadd, 1) := by decide +kernel
theorem dX12_spell_18 : decode cX12_spell 18 = .ok (.lload_n 2, 1) := by decide +kernel
theorem dX12_spell_19 : decode cX12_spell 19 = .ok (.bipush 56, 2) := by decide +kernel
theorem dX12_spell_21 : decode cX12_spell 21 = .ok (.bipush 8, 2) := by decide +kernel
theorem dX12_spell_23 : decode cX12_spell 23 = .ok (.iload 4, 2) := by decide +kernel
theorem dX12_spell_25 : decode cX12_spell 25 = .ok (.imul, 1) := by decide +kernel
theorem dX12_spell_26 : decode cX12_spell 26 = .ok (.isub, 1) := by decide +kernel
theorem dX12_spell_27 : decode cX12_spell 27 = .ok (.lshr, 1) := by decide +kernel
theorem dX12_spell_28 : decode cX12_spell 28 = .ok (.ldc2_w 146, 3) := by decide +kernel
theorem dX12_spell_31 : decode cX12_spell 31 = .ok (.land, 1) := by decide +kernel
theorem dX12_spell_32 : decode cX12_spell 32 = .ok (.l2i, 1) := by decide +kernel
theorem dX12_spell_33 : decode cX12_spell 33 = .ok (.iastore, 1) := by decide +kernel
theorem dX12_spell_34 : decode cX12_spell 34 = .ok (.iinc 4 1, 3) := by decide +kernel
theorem dX12_spell_37 : decode cX12_spell 37 = .ok (.goto (-34), 3) := by decide +kernel
theorem dX12_spell_40 : decode cX12_spell 40 = .ok (.return_, 1) := by decide +kernel
theorem dX12_isLand_0 : decode cX12_isLand 0 = .ok (.iload_n 0, 1) := by decide +kernel
theorem dX12_isLand_1 : decode cX12_isLand 1 = .ok (.iconst 0, 1) := by decide +kernel
theorem dX12_isLand_2 : decode cX12_isLand 2 = .ok (.iconst 4, 1) := by decide +kernel
theorem dX12_isLand_3 : decode cX12_isLand 3 = .ok (.invokestatic 148, 3) := by decide +kernel
theorem dX12_isLand_6 : decode cX12_isLand 6 = .ok (.ireturn, 1) := by decide +kernel
theorem dX12_isPeriod_0 : decode cX12_isPeriod 0 = .ok (.iload_n 1, 1) := by decide +kernel
theorem dX12_isPeriod_1 : decode cX12_isPeriod 1 = .ok (.iconst 0, 1) := by decide +kernel
theorem dX12_isPeriod_2 : decode cX12_isPeriod 2 = .ok (.aload_n 0, 1) := by decide +kernel
theorem dX12_isPeriod_3 : decode cX12_isPeriod 3 = .ok (.getfield 124, 3) := by decide +kernel
theorem dX12_isPeriod_6 : decode cX12_isPeriod 6 = .ok (.iconst 1, 1) := by decide +kernel
theorem dX12_isPeriod_7 : decode cX12_isPeriod 7 = .ok (.isub, 1) := by decide +kernel
theorem dX12_isPeriod_8 : decode cX12_isPeriod 8 = .ok (.invokestatic 148, 3) := by decide +kernel
theorem dX12_isPeriod_11 : decode cX12_isPeriod 11 = .ok (.ireturn, 1) := by decide +kernel
theorem dX12_isPlace_0 : decode cX12_isPlace 0 = .ok (.iload_n 1, 1) := by decide +kernel
theorem dX12_isPlace_1 : decode cX12_isPlace 1 = .ok (.invokestatic 152, 3) := by decide +kernel
theorem dX12_isPlace_4 : decode cX12_isPlace 4 = .ok (.ifCond .eq 15, 3) := by decide +kernel
theorem dX12_isPlace_7 : decode cX12_isPlace 7 = .ok (.aload_n 0, 1) := by decide +kernel
theorem dX12_isPlace_8 : decode cX12_isPlace 8 = .ok (.iload_n 2, 1) := by decide +kernel
theorem dX12_isPlace_9 : decode cX12_isPlace 9 = .ok (.invokevirtual 156, 3) := by decide +kernel
theorem dX12_isPlace_12 : decode cX12_isPlace 12 = .ok (.ifCond .eq 7, 3) := by decide +kernel
theorem dX12_isPlace_15 : decode cX12_isPlace 15 = .ok (.iconst 1, 1) := by decide +kernel
theorem dX12_isPlace_16 : decode cX12_isPlace 16 = .ok (.goto 4, 3) := by decide +kernel
theorem dX12_isPlace_19 : decode cX12_isPlace 19 = .ok (.iconst 0, 1) := by decide +kernel
theorem dX12_isPlace_20 : decode cX12_isPlace 20 = .ok (.ireturn, 1) := by decide +kernel
theorem dX12_way_0 : decode cX12_way 0 = .ok (.iload_n 1, 1) := by decide +kernel
theorem dX12_way_1 : decode cX12_way 1 = .ok (.invokestatic 152, 3) := by decide +kernel
theorem dX12_way_4 : decode cX12_way 4 = .ok (.ifCond .eq 44, 3) := by decide +kernel
theorem dX12_way_7 : decode cX12_way 7 = .ok (.iload_n 2, 1) := by decide +kernel
theorem dX12_way_8 : decode cX12_way 8 = .ok (.invokestatic 152, 3) := by decide +kernel
theorem dX12_way_11 : decode cX12_way 11 = .ok (.ifCond .eq 37, 3) := by decide +kernel
theorem dX12_way_14 : decode cX12_way 14 = .ok (.iload_n 1, 1) := by decide +kernel
theorem dX12_way_15 : decode cX12_way 15 = .ok (.iload_n 2, 1) := by decide +kernel
theorem dX12_way_16 : decode cX12_way 16 = .ok (.if_icmp .eq 32, 3) := by decide +kernel
theorem dX12_way_19 : decode cX12_way 19 = .ok (.iload_n 3, 1) := by decide +kernel
theorem dX12_way_20 : decode cX12_way 20 = .ok (.iconst 0, 1) := by decide +kernel
theorem dX12_way_21 : decode cX12_way 21 = .ok (.aload_n 0, 1) := by decide +kernel
theorem dX12_way_22 : decode cX12_way 22 = .ok (.getfield 124, 3) := by decide +kernel
theorem dX12_way_25 : decode cX12_way 25 = .ok (.iconst 2, 1) := by decide +kernel
theorem dX12_way_26 : decode cX12_way 26 = .ok (.isub, 1) := by decide +kernel
theorem dX12_way_27 : decode cX12_way 27 = .ok (.invokestatic 148, 3) := by decide +kernel
theorem dX12_way_30 : decode cX12_way 30 = .ok (.ifCond .eq 18, 3) := by decide +kernel
theorem dX12_way_33 : decode cX12_way 33 = .ok (.iload 4, 2) := by decide +kernel
theorem dX12_way_35 : decode cX12_way 35 = .ok (.iload_n 3, 1) := by decide +kernel
theorem dX12_way_36 : decode cX12_way 36 = .ok (.aload_n 0, 1) := by decide +kernel
theorem dX12_way_37 : decode cX12_way 37 = .ok (.getfield 124, 3) := by decide +kernel
theorem dX12_way_40 : decode cX12_way 40 = .ok (.iconst 2, 1) := by decide +kernel
theorem dX12_way_41 : decode cX12_way 41 = .ok (.isub, 1) := by decide +kernel
theorem dX12_way_42 : decode cX12_way 42 = .ok (.invokestatic 148, 3) := by decide +kernel
theorem dX12_way_45 : decode cX12_way 45 = .ok (.ifCond .ne 6, 3) := by decide +kernel
theorem dX12_way_48 : decode cX12_way 48 = .ok (.bipush (-2), 2) := by decide +kernel
theorem dX12_way_50 : decode cX12_way 50 = .ok (.ireturn, 1) := by decide +kernel
theorem dX12_way_51 : decode cX12_way 51 = .ok (.aload_n 0, 1) := by decide +kernel
theorem dX12_way_52 : decode cX12_way 52 = .ok (.getfield 159, 3) := by decide +kernel
theorem dX12_way_55 : decode cX12_way 55 = .ok (.bipush 20, 2) := by decide +kernel
theorem dX12_way_57 : decode cX12_way 57 = .ok (.if_icmp .ne 6, 3) := by decide +kernel
theorem dX12_way_60 : decode cX12_way 60 = .ok (.bipush (-4), 2) := by decide +kernel
theorem dX12_way_62 : decode cX12_way 62 = .ok (.ireturn, 1) := by decide +kernel
theorem dX12_way_63 : decode cX12_way 63 = .ok (.aload_n 0, 1) := by decide +kernel
theorem dX12_way_64 : decode cX12_way 64 = .ok (.getfield 13, 3) := by decide +kernel
theorem dX12_way_67 : decode cX12_way 67 = .ok (.aload_n 0, 1) := by decide +kernel
theorem dX12_way_68 : decode cX12_way 68 = .ok (.getfield 159, 3) := by decide +kernel
theorem dX12_way_71 : decode cX12_way 71 = .ok (.iload_n 1, 1) := by decide +kernel
theorem dX12_way_72 : decode cX12_way 72 = .ok (.iastore, 1) := by decide +kernel
theorem dX12_way_73 : decode cX12_way 73 = .ok (.aload_n 0, 1) := by decide +kernel
theorem dX12_way_74 : decode cX12_way 74 = .ok (.getfield 17, 3) := by decide +kernel
theorem dX12_way_77 : decode cX12_way 77 = .ok (.aload_n 0, 1) := by decide +kernel
theorem dX12_way_78 : decode cX12_way 78 = .ok (.getfield 159, 3) := by decide +kernel
theorem dX12_way_81 : decode cX12_way 81 = .ok (.iload_n 2, 1) := by decide +kernel
theorem dX12_way_82 : decode cX12_way 82 = .ok (.iastore, 1) := by decide +kernel
theorem dX12_way_83 : decode cX12_way 83 = .ok (.aload_n 0, 1) := by decide +kernel
theorem dX12_way_84 : decode cX12_way 84 = .ok (.getfield 20, 3) := by decide +kernel
theorem dX12_way_87 : decode cX12_way 87 = .ok (.aload_n 0, 1) := by decide +kernel
theorem dX12_way_88 : decode cX12_way 88 = .ok (.getfield 159, 3) := by decide +kernel
theorem dX12_way_91 : decode cX12_way 91 = .ok (.iload_n 3, 1) := by decide +kernel
theorem dX12_way_92 : decode cX12_way 92 = .ok (.iastore, 1) := by decide +kernel
theorem dX12_way_93 : decode cX12_way 93 = .ok (.aload_n 0, 1) := by decide +kernel
theorem dX12_way_94 : decode cX12_way 94 = .ok (.getfield 23, 3) := by decide +kernel
theorem dX12_way_97 : decode cX12_way 97 = .ok (.aload_n 0, 1) := by decide +kernel
theorem dX12_way_98 : decode cX12_way 98 = .ok (.getfield 159, 3) := by decide +kernel
theorem dX12_way_101 : decode cX12_way 101 = .ok (.iload 4, 2) := by decide +kernel
theorem dX12_way_103 : decode cX12_way 103 = .ok (.iastore, 1) := by decide +kernel
theorem dX12_way_104 : decode cX12_way 104 = .ok (.aload_n 0, 1) := by decide +kernel
theorem dX12_way_105 : decode cX12_way 105 = .ok (.dup, 1) := by decide +kernel
theorem dX12_way_106 : decode cX12_way 106 = .ok (.getfield 159, 3) := by decide +kernel
theorem dX12_way_109 : decode cX12_way 109 = .ok (.iconst 1, 1) := by decide +kernel
theorem dX12_way_110 : decode cX12_way 110 = .ok (.iadd, 1) := by decide +kernel
theorem dX12_way_111 : decode cX12_way 111 = .ok (.putfield 159, 3) := by decide +kernel
theorem dX12_way_114 : decode cX12_way 114 = .ok (.aload_n 0, 1) := by decide +kernel
theorem dX12_way_115 : decode cX12_way 115 = .ok (.getfield 159, 3) := by decide +kernel
theorem dX12_way_118 : decode cX12_way 118 = .ok (.iconst 1, 1) := by decide +kernel
theorem dX12_way_119 : decode cX12_way 119 = .ok (.isub, 1) := by decide +kernel
theorem dX12_way_120 : decode cX12_way 120 = .ok (.ireturn, 1) := by decide +kernel
theorem dX12_soil_0 : decode cX12_soil 0 = .ok (.iload_n 1, 1) := by decide +kernel
theorem dX12_soil_1 : decode cX12_soil 1 = .ok (.iconst 0, 1) := by decide +kernel
theorem dX12_soil_2 : decode cX12_soil 2 = .ok (.bipush 31, 2) := by decide +kernel
theorem dX12_soil_4 : decode cX12_soil 4 = .ok (.invokestatic 148, 3) := by decide +kernel
theorem dX12_soil_7 : decode cX12_soil 7 = .ok (.ifCond .ne 6, 3) := by decide +kernel
theorem dX12_soil_10 : decode cX12_soil 10 = .ok (.bipush (-2), 2) := by decide +kernel
theorem dX12_soil_12 : decode cX12_soil 12 = .ok (.ireturn, 1) := by decide +kernel
theorem dX12_soil_13 : decode cX12_soil 13 = .ok (.aload_n 0, 1) := by decide +kernel
theorem dX12_soil_14 : decode cX12_soil 14 = .ok (.getfield 140, 3) := by decide +kernel
theorem dX12_soil_17 : decode cX12_soil 17 = .ok (.istore_n 2, 1) := by decide +kernel
theorem dX12_soil_18 : decode cX12_soil 18 = .ok (.aload_n 0, 1) := by decide +kernel
theorem dX12_soil_19 : decode cX12_soil 19 = .ok (.iload_n 1, 1) := by decide +kernel
theorem dX12_soil_20 : decode cX12_soil 20 = .ok (.putfield 140, 3) := by decide +kernel
theorem dX12_soil_23 : decode cX12_soil 23 = .ok (.iload_n 2, 1) := by decide +kernel
theorem dX12_soil_24 : decode cX12_soil 24 = .ok (.ireturn, 1) := by decide +kernel
theorem dX12_openWays_0 : decode cX12_openWays 0 = .ok (.iconst 0, 1) := by decide +kernel
theorem dX12_openWays_1 : decode cX12_openWays 1 = .ok (.istore 4, 2) := by decide +kernel
theorem dX12_openWays_3 : decode cX12_openWays 3 = .ok (.iconst 0, 1) := by decide +kernel
theorem dX12_openWays_4 : decode cX12_openWays 4 = .ok (.istore 5, 2) := by decide +kernel
theorem dX12_openWays_6 : decode cX12_openWays 6 = .ok (.iload 5, 2) := by decide +kernel
theorem dX12_openWays_8 : decode cX12_openWays 8 = .ok (.aload_n 0, 1) := by decide +kernel
theorem dX12_openWays_9 : decode cX12_openWays 9 = .ok (.getfield 159, 3) := by decide +kernel
theorem dX12_openWays_12 : decode cX12_openWays 12 = .ok (.if_icmp .ge 62, 3) := by decide +kernel
theorem dX12_openWays_15 : decode cX12_openWays 15 = .ok (.iload 4, 2) := by decide +kernel
theorem dX12_openWays_17 : decode cX12_openWays 17 = .ok (.aload_n 0, 1) := by decide +kernel
theorem dX12_openWays_18 : decode cX12_openWays 18 = .ok (.getfield 13, 3) := by decide +kernel
theorem dX12_openWays_21 : decode cX12_openWays 21 = .ok (.iload 5, 2) := by decide +kernel
theorem dX12_openWays_23 : decode cX12_openWays 23 = .ok (.iaload, 1) := by decide +kernel
theorem dX12_openWays_24 : decode cX12_openWays 24 = .ok (.iload_n 1, 1) := by decide +kernel
theorem dX12_openWays_25 : decode cX12_openWays 25 = .ok (.if_icmp .ne 39, 3) := by decide +kernel
theorem dX12_openWays_28 : decode cX12_openWays 28 = .ok (.aload_n 0, 1) := by decide +kernel
theorem dX12_openWays_29 : decode cX12_openWays 29 = .ok (.getfield 17, 3) := by decide +kernel
theorem dX12_openWays_32 : decode cX12_openWays 32 = .ok (.iload 5, 2) := by decide +kernel
theorem dX12_openWays_34 : decode cX12_openWays 34 = .ok (.iaload, 1) := by decide +kernel
theorem dX12_openWays_35 : decode cX12_openWays 35 = .ok (.iload_n 2, 1) := by decide +kernel
theorem dX12_openWays_36 : decode cX12_openWays 36 = .ok (.if_icmp .ne 28, 3) := by decide +kernel
theorem dX12_openWays_39 : decode cX12_openWays 39 = .ok (.iload_n 3, 1) := by decide +kernel
theorem dX12_openWays_40 : decode cX12_openWays 40 = .ok (.aload_n 0, 1) := by decide +kernel
theorem dX12_openWays_41 : decode cX12_openWays 41 = .ok (.getfield 20, 3) := by decide +kernel
theorem dX12_openWays_44 : decode cX12_openWays 44 = .ok (.iload 5, 2) := by decide +kernel
theorem dX12_openWays_46 : decode cX12_openWays 46 = .ok (.iaload, 1) := by decide +kernel
theorem dX12_openWays_47 : decode cX12_openWays 47 = .ok (.aload_n 0, 1) := by decide +kernel
theorem dX12_openWays_48 : decode cX12_openWays 48 = .ok (.getfield 23, 3) := by decide +kernel
theorem dX12_openWays_51 : decode cX12_openWays 51 = .ok (.iload 5, 2) := by decide +kernel
theorem dX12_openWays_53 : decode cX12_openWays 53 = .ok (.iaload, 1) := by decide +kernel
theorem dX12_openWays_54 : decode cX12_openWays 54 = .ok (.invokestatic 148, 3) := by decide +kernel
theorem dX12_openWays_57 : decode cX12_openWays 57 = .ok (.ifCond .eq 7, 3) := by decide +kernel
theorem dX12_openWays_60 : decode cX12_openWays 60 = .ok (.iconst 1, 1) := by decide +kernel
theorem dX12_openWays_61 : decode cX12_openWays 61 = .ok (.goto 4, 3) := by decide +kernel
theorem dX12_openWays_64 : decode cX12_openWays 64 = .ok (.iconst 0, 1) := by decide +kernel
theorem dX12_openWays_65 : decode cX12_openWays 65 = .ok (.iadd, 1) := by decide +kernel
theorem dX12_openWays_66 : decode cX12_openWays 66 = .ok (.istore 4, 2) := by decide +kernel
theorem dX12_openWays_68 : decode cX12_openWays 68 = .ok (.iinc 5 1, 3) := by decide +kernel
theorem dX12_openWays_71 : decode cX12_openWays 71 = .ok (.goto (-65), 3) := by decide +kernel
theorem dX12_openWays_74 : decode cX12_openWays 74 = .ok (.iload 4, 2) := by decide +kernel
theorem dX12_openWays_76 : decode cX12_openWays 76 = .ok (.ireturn, 1) := by decide +kernel
theorem dX12_isPaper_0 : decode cX12_isPaper 0 = .ok (.iload_n 1, 1) := by decide +kernel
theorem dX12_isPaper_1 : decode cX12_isPaper 1 = .ok (.iconst 0, 1) := by decide +kernel
theorem dX12_isPaper_2 : decode cX12_isPaper 2 = .ok (.aload_n 0, 1) := by decide +kernel
theorem dX12_isPaper_3 : decode cX12_isPaper 3 = .ok (.getfield 162, 3) := by decide +kernel
theorem dX12_isPaper_6 : decode cX12_isPaper 6 = .ok (.iconst 1, 1) := by decide +kernel
theorem dX12_isPaper_7 : decode cX12_isPaper 7 = .ok (.isub, 1) := by decide +kernel
theorem dX12_isPaper_8 : decode cX12_isPaper 8 = .ok (.invokestatic 148, 3) := by decide +kernel
theorem dX12_isPaper_11 : decode cX12_isPaper 11 = .ok (.ireturn, 1) := by decide +kernel
theorem dX12_paper_0 : decode cX12_paper 0 = .ok (.iload_n 1, 1) := by decide +kernel
theorem dX12_paper_1 : decode cX12_paper 1 = .ok (.iconst 0, 1) := by decide +kernel
theorem dX12_paper_2 : decode cX12_paper 2 = .ok (.iconst 5, 1) := by decide +kernel
theorem dX12_paper_3 : decode cX12_paper 3 = .ok (.invokestatic 148, 3) := by decide +kernel
theorem dX12_paper_6 : decode cX12_paper 6 = .ok (.ifCond .eq 41, 3) := by decide +kernel
theorem dX12_paper_9 : decode cX12_paper 9 = .ok (.iload_n 2, 1) := by decide +kernel
theorem dX12_paper_10 : decode cX12_paper 10 = .ok (.invokestatic 152, 3) := by decide +kernel
theorem dX12_paper_13 : decode cX12_paper 13 = .ok (.ifCond .eq 34, 3) := by decide +kernel
theorem dX12_paper_16 : decode cX12_paper 16 = .ok (.iload_n 3, 1) := by decide +kernel
theorem dX12_paper_17 : decode cX12_paper 17 = .ok (.invokestatic 152, 3) := by decide +kernel
theorem dX12_paper_20 : decode cX12_paper 20 = .ok (.ifCond .eq 27, 3) := by decide +kernel
theorem dX12_paper_23 : decode cX12_paper 23 = .ok (.aload_n 0, 1) := by decide +kernel
theorem dX12_paper_24 : decode cX12_paper 24 = .ok (.iload 4, 2) := by decide +kernel
theorem dX12_paper_26 : decode cX12_paper 26 = .ok (.invokevirtual 156, 3) := by decide +kernel
theorem dX12_paper_29 : decode cX12_paper 29 = .ok (.ifCond .eq 18, 3) := by decide +kernel
theorem dX12_paper_32 : decode cX12_paper 32 = .ok (.iload 5, 2) := by decide +kernel
theorem dX12_paper_34 : decode cX12_paper 34 = .ok (.ifCond .lt 13, 3) := by decide +kernel
theorem dX12_paper_37 : decode cX12_paper 37 = .ok (.iload 5, 2) := by decide +kernel
theorem dX12_paper_39 : decode cX12_paper 39 = .ok (.aload_n 0, 1) := by decide +kernel
theorem dX12_paper_40 : decode cX12_paper 40 = .ok (.getfield 162, 3) := by decide +kernel
theorem dX12_paper_43 : decode cX12_paper 43 = .ok (.ishr, 1) := by decide +kernel
theorem dX12_paper_44 : decode cX12_paper 44 = .ok (.ifCond .eq 6, 3) := by decide +kernel
theorem dX12_paper_47 : decode cX12_paper 47 = .ok (.bipush (-2), 2) := by decide +kernel
theorem dX12_paper_49 : decode cX12_paper 49 = .ok (.ireturn, 1) := by decide +kernel
theorem dX12_paper_50 : decode cX12_paper 50 = .ok (.aload_n 0, 1) := by decide +kernel
theorem dX12_paper_51 : decode cX12_paper 51 = .ok (.getfield 162, 3) := by decide +kernel
theorem dX12_paper_54 : decode cX12_paper 54 = .ok (.bipush 16, 2) := by decide +kernel
theorem dX12_paper_56 : decode cX12_paper 56 = .ok (.if_icmp .ne 6, 3) := by decide +kernel
theorem dX12_paper_59 : decode cX12_paper 59 = .ok (.bipush (-4), 2) := by decide +kernel
theorem dX12_paper_61 : decode cX12_paper 61 = .ok (.ireturn, 1) := by decide +kernel
theorem dX12_paper_62 : decode cX12_paper 62 = .ok (.aload_n 0, 1) := by decide +kernel
theorem dX12_paper_63 : decode cX12_paper 63 = .ok (.getfield 26, 3) := by decide +kernel
theorem dX12_paper_66 : decode cX12_paper 66 = .ok (.aload_n 0, 1) := by decide +kernel
theorem dX12_paper_67 : decode cX12_paper 67 = .ok (.getfield 162, 3) := by decide +kernel
theorem dX12_paper_70 : decode cX12_paper 70 = .ok (.iload_n 1, 1) := by decide +kernel
theorem dX12_paper_71 : decode cX12_paper 71 = .ok (.iastore, 1) := by decide +kernel
theorem dX12_paper_72 : decode cX12_paper 72 = .ok (.aload_n 0, 1) := by decide +kernel
theorem dX12_paper_73 : decode cX12_paper 73 = .ok (.getfield 29, 3) := by decide +kernel
theorem dX12_paper_76 : decode cX12_paper 76 = .ok (.aload_n 0, 1) := by decide +kernel
theorem dX12_paper_77 : decode cX12_paper 77 = .ok (.getfield 162, 3) := by decide +kernel
theorem dX12_paper_80 : decode cX12_paper 80 = .ok (.iload_n 2, 1) := by decide +kernel
theorem dX12_paper_81 : decode cX12_paper 81 = .ok (.iastore, 1) := by decide +kernel
theorem dX12_paper_82 : decode cX12_paper 82 = .ok (.aload_n 0, 1) := by decide +kernel
theorem dX12_paper_83 : decode cX12_paper 83 = .ok (.getfield 32, 3) := by decide +kernel
theorem dX12_paper_86 : decode cX12_paper 86 = .ok (.aload_n 0, 1) := by decide +kernel
theorem dX12_paper_87 : decode cX12_paper 87 = .ok (.getfield 162, 3) := by decide +kernel
theorem dX12_paper_90 : decode cX12_paper 90 = .ok (.iload_n 3, 1) := by decide +kernel
theorem dX12_paper_91 : decode cX12_paper 91 = .ok (.iastore, 1) := by decide +kernel
theorem dX12_paper_92 : decode cX12_paper 92 = .ok (.aload_n 0, 1) := by decide +kernel
theorem dX12_paper_93 : decode cX12_paper 93 = .ok (.getfield 35, 3) := by decide +kernel
theorem dX12_paper_96 : decode cX12_paper 96 = .ok (.aload_n 0, 1) := by decide +kernel
theorem dX12_paper_97 : decode cX12_paper 97 = .ok (.getfield 162, 3) := by decide +kernel
theorem dX12_paper_100 : decode cX12_paper 100 = .ok (.iload 4, 2) := by decide +kernel
theorem dX12_paper_102 : decode cX12_paper 102 = .ok (.iastore, 1) := by decide +kernel
theorem dX12_paper_103 : decode cX12_paper 103 = .ok (.aload_n 0, 1) := by decide +kernel
theorem dX12_paper_104 : decode cX12_paper 104 = .ok (.getfield 38, 3) := by decide +kernel
theorem dX12_paper_107 : decode cX12_paper 107 = .ok (.aload_n 0, 1) := by decide +kernel
theorem dX12_paper_108 : decode cX12_paper 108 = .ok (.getfield 162, 3) := by decide +kernel
theorem dX12_paper_111 : decode cX12_paper 111 = .ok (.iload 5, 2) := by decide +kernel
theorem dX12_paper_113 : decode cX12_paper 113 = .ok (.iastore, 1) := by decide +kernel
theorem dX12_paper_114 : decode cX12_paper 114 = .ok (.aload_n 0, 1) := by decide +kernel
theorem dX12_paper_115 : decode cX12_paper 115 = .ok (.getfield 41, 3) := by decide +kernel
theorem dX12_paper_118 : decode cX12_paper 118 = .ok (.aload_n 0, 1) := by decide +kernel
theorem dX12_paper_119 : decode cX12_paper 119 = .ok (.getfield 162, 3) := by decide +kernel
theorem dX12_paper_122 : decode cX12_paper 122 = .ok (.iconst 0, 1) := by decide +kernel
theorem dX12_paper_123 : decode cX12_paper 123 = .ok (.bastore, 1) := by decide +kernel
theorem dX12_paper_124 : decode cX12_paper 124 = .ok (.aload_n 0, 1) := by decide +kernel
theorem dX12_paper_125 : decode cX12_paper 125 = .ok (.dup, 1) := by decide +kernel
theorem dX12_paper_126 : decode cX12_paper 126 = .ok (.getfield 162, 3) := by decide +kernel
theorem dX12_paper_129 : decode cX12_paper 129 = .ok (.iconst 1, 1) := by decide +kernel
theorem dX12_paper_130 : decode cX12_paper 130 = .ok (.iadd, 1) := by decide +kernel
theorem dX12_paper_131 : decode cX12_paper 131 = .ok (.putfield 162, 3) := by decide +kernel
theorem dX12_paper_134 : decode cX12_paper 134 = .ok (.aload_n 0, 1) := by decide +kernel
theorem dX12_paper_135 : decode cX12_paper 135 = .ok (.getfield 162, 3) := by decide +kernel
theorem dX12_paper_138 : decode cX12_paper 138 = .ok (.iconst 1, 1) := by decide +kernel
theorem dX12_paper_139 : decode cX12_paper 139 = .ok (.isub, 1) := by decide +kernel
theorem dX12_paper_140 : decode cX12_paper 140 = .ok (.ireturn, 1) := by decide +kernel
theorem dX12_standing_0 : decode cX12_standing 0 = .ok (.iconst 0, 1) := by decide +kernel
theorem dX12_standing_1 : decode cX12_standing 1 = .ok (.istore_n 2, 1) := by decide +kernel
theorem dX12_standing_2 : decode cX12_standing 2 = .ok (.iconst 0, 1) := by decide +kernel
theorem dX12_standing_3 : decode cX12_standing 3 = .ok (.istore_n 3, 1) := by decide +kernel
theorem dX12_standing_4 : decode cX12_standing 4 = .ok (.iload_n 3, 1) := by decide +kernel
theorem dX12_standing_5 : decode cX12_standing 5 = .ok (.aload_n 0, 1) := by decide +kernel
theorem dX12_standing_6 : decode cX12_standing 6 = .ok (.getfield 162, 3) := by decide +kernel
theorem dX12_standing_9 : decode cX12_standing 9 = .ok (.if_icmp .ge 42, 3) := by decide +kernel
theorem dX12_standing_12 : decode cX12_standing 12 = .ok (.aload_n 0, 1) := by decide +kernel
theorem dX12_standing_13 : decode cX12_standing 13 = .ok (.getfield 41, 3) := by decide +kernel
theorem dX12_standing_16 : decode cX12_standing 16 = .ok (.iload_n 3, 1) := by decide +kernel
theorem dX12_standing_17 : decode cX12_standing 17 = .ok (.baload, 1) := by decide +kernel
theorem dX12_standing_18 : decode cX12_standing 18 = .ok (.ifCond .ne 27, 3) := by decide +kernel
theorem dX12_standing_21 : decode cX12_standing 21 = .ok (.iload_n 3, 1) := by decide +kernel
theorem dX12_standing_22 : decode cX12_standing 22 = .ok (.iload_n 1, 1) := by decide +kernel
theorem dX12_standing_23 : decode cX12_standing 23 = .ok (.if_icmp .eq 22, 3) := by decide +kernel
theorem dX12_standing_26 : decode cX12_standing 26 = .ok (.aload_n 0, 1) := by decide +kernel
theorem dX12_standing_27 : decode cX12_standing 27 = .ok (.getfield 38, 3) := by decide +kernel
theorem dX12_standing_30 : decode cX12_standing 30 = .ok (.iload_n 3, 1) := by decide +kernel
theorem dX12_standing_31 : decode cX12_standing 31 = .ok (.iaload, 1) := by decide +kernel
theorem dX12_standing_32 : decode cX12_standing 32 = .ok (.iload_n 2, 1) := by decide +kernel
theorem dX12_standing_33 : decode cX12_standing 33 = .ok (.iconst (-1), 1) := by decide +kernel
theorem dX12_standing_34 : decode cX12_standing 34 = .ok (.ixor, 1) := by decide +kernel
theorem dX12_standing_35 : decode cX12_standing 35 = .ok (.iand, 1) := by decide +kernel
theorem dX12_standing_36 : decode cX12_standing 36 = .ok (.ifCond .ne 9, 3) := by decide +kernel
theorem dX12_standing_39 : decode cX12_standing 39 = .ok (.iload_n 2, 1) := by decide +kernel
theorem dX12_standing_40 : decode cX12_standing 40 = .ok (.iconst 1, 1) := by decide +kernel
theorem dX12_standing_41 : decode cX12_standing 41 = .ok (.iload_n 3, 1) := by decide +kernel
theorem dX12_standing_42 : decode cX12_standing 42 = .ok (.ishl, 1) := by decide +kernel
theorem dX12_standing_43 : decode cX12_standing 43 = .ok (.ior, 1) := by decide +kernel
theorem dX12_standing_44 : decode cX12_standing 44 = .ok (.istore_n 2, 1) := by decide +kernel
theorem dX12_standing_45 : decode cX12_standing 45 = .ok (.iinc 3 1, 3) := by decide +kernel
theorem dX12_standing_48 : decode cX12_standing 48 = .ok (.goto (-44), 3) := by decide +kernel
theorem dX12_standing_51 : decode cX12_standing 51 = .ok (.iload_n 2, 1) := by decide +kernel
theorem dX12_standing_52 : decode cX12_standing 52 = .ok (.ireturn, 1) := by decide +kernel
theorem dX12_paperTold_0 : decode cX12_paperTold 0 = .ok (.aload_n 0, 1) := by decide +kernel
theorem dX12_paperTold_1 : decode cX12_paperTold 1 = .ok (.iload_n 1, 1) := by decide +kernel
theorem dX12_paperTold_2 : decode cX12_paperTold 2 = .ok (.invokevirtual 165, 3) := by decide +kernel
theorem dX12_paperTold_5 : decode cX12_paperTold 5 = .ok (.ifCond .ne 6, 3) := by decide +kernel
theorem dX12_paperTold_8 : decode cX12_paperTold 8 = .ok (.bipush (-2), 2) := by decide +kernel
theorem dX12_paperTold_10 : decode cX12_paperTold 10 = .ok (.ireturn, 1) := by decide +kernel
theorem dX12_paperTold_11 : decode cX12_paperTold 11 = .ok (.iload_n 2, 1) := by decide +kernel
theorem dX12_paperTold_12 : decode cX12_paperTold 12 = .ok (.tableswitch 104 0 6 #[44, 51, 58, 65, 72, 79, 94], 44) := by decide +kernel
theorem dX12_paperTold_56 : decode cX12_paperTold 56 = .ok (.aload_n 0, 1) := by decide +kernel
theorem dX12_paperTold_57 : decode cX12_paperTold 57 = .ok (.getfield 26, 3) := by decide +kernel
theorem dX12_paperTold_60 : decode cX12_paperTold 60 = .ok (.iload_n 1, 1) := by decide +kernel
theorem dX12_paperTold_61 : decode cX12_paperTold 61 = .ok (.iaload, 1) := by decide +kernel
theorem dX12_paperTold_62 : decode cX12_paperTold 62 = .ok (.ireturn, 1) := by decide +kernel
theorem dX12_paperTold_63 : decode cX12_paperTold 63 = .ok (.aload_n 0, 1) := by decide +kernel
theorem dX12_paperTold_64 : decode cX12_paperTold 64 = .ok (.getfield 29, 3) := by decide +kernel
theorem dX12_paperTold_67 : decode cX12_paperTold 67 = .ok (.iload_n 1, 1) := by decide +kernel
theorem dX12_paperTold_68 : decode cX12_paperTold 68 = .ok (.iaload, 1) := by decide +kernel
theorem dX12_paperTold_69 : decode cX12_paperTold 69 = .ok (.ireturn, 1) := by decide +kernel
theorem dX12_paperTold_70 : decode cX12_paperTold 70 = .ok (.aload_n 0, 1) := by decide +kernel
theorem dX12_paperTold_71 : decode cX12_paperTold 71 = .ok (.getfield 32, 3) := by decide +kernel
theorem dX12_paperTold_74 : decode cX12_paperTold 74 = .ok (.iload_n 1, 1) := by decide +kernel
theorem dX12_paperTold_75 : decode cX12_paperTold 75 = .ok (.iaload, 1) := by decide +kernel
theorem dX12_paperTold_76 : decode cX12_paperTold 76 = .ok (.ireturn, 1) := by decide +kernel
theorem dX12_paperTold_77 : decode cX12_paperTold 77 = .ok (.aload_n 0, 1) := by decide +kernel
theorem dX12_paperTold_78 : decode cX12_paperTold 78 = .ok (.getfield 35, 3) := by decide +kernel
theorem dX12_paperTold_81 : decode cX12_paperTold 81 = .ok (.iload_n 1, 1) := by decide +kernel
theorem dX12_paperTold_82 : decode cX12_paperTold 82 = .ok (.iaload, 1) := by decide +kernel
theorem dX12_paperTold_83 : decode cX12_paperTold 83 = .ok (.ireturn, 1) := by decide +kernel
theorem dX12_paperTold_84 : decode cX12_paperTold 84 = .ok (.aload_n 0, 1) := by decide +kernel
theorem dX12_paperTold_85 : decode cX12_paperTold 85 = .ok (.getfield 38, 3) := by decide +kernel
theorem dX12_paperTold_88 : decode cX12_paperTold 88 = .ok (.iload_n 1, 1) := by decide +kernel
theorem dX12_paperTold_89 : decode cX12_paperTold 89 = .ok (.iaload, 1) := by decide +kernel
theorem dX12_paperTold_90 : decode cX12_paperTold 90 = .ok (.ireturn, 1) := by decide +kernel
theorem dX12_paperTold_91 : decode cX12_paperTold 91 = .ok (.aload_n 0, 1) := by decide +kernel
theorem dX12_paperTold_92 : decode cX12_paperTold 92 = .ok (.getfield 41, 3) := by decide +kernel
theorem dX12_paperTold_95 : decode cX12_paperTold 95 = .ok (.iload_n 1, 1) := by decide +kernel
theorem dX12_paperTold_96 : decode cX12_paperTold 96 = .ok (.baload, 1) := by decide +kernel
theorem dX12_paperTold_97 : decode cX12_paperTold 97 = .ok (.ifCond .eq 7, 3) := by decide +kernel
theorem dX12_paperTold_100 : decode cX12_paperTold 100 = .ok (.iconst 1, 1) := by decide +kernel
theorem dX12_paperTold_101 : decode cX12_paperTold 101 = .ok (.goto 4, 3) := by decide +kernel
theorem dX12_paperTold_104 : decode cX12_paperTold 104 = .ok (.iconst 0, 1) := by decide +kernel
theorem dX12_paperTold_105 : decode cX12_paperTold 105 = .ok (.ireturn, 1) := by decide +kernel
theorem dX12_paperTold_106 : decode cX12_paperTold 106 = .ok (.aload_n 0, 1) := by decide +kernel
theorem dX12_paperTold_107 : decode cX12_paperTold 107 = .ok (.iconst (-1), 1) := by decide +kernel
theorem dX12_paperTold_108 : decode cX12_paperTold 108 = .ok (.invokevirtual 168, 3) := by decide +kernel
theorem dX12_paperTold_111 : decode cX12_paperTold 111 = .ok (.iload_n 1, 1) := by decide +kernel
theorem dX12_paperTold_112 : decode cX12_paperTold 112 = .ok (.ishr, 1) := by decide +kernel
theorem dX12_paperTold_113 : decode cX12_paperTold 113 = .ok (.iconst 1, 1) := by decide +kernel
theorem dX12_paperTold_114 : decode cX12_paperTold 114 = .ok (.iand, 1) := by decide +kernel
theorem dX12_paperTold_115 : decode cX12_paperTold 115 = .ok (.ireturn, 1) := by decide +kernel
theorem dX12_paperTold_116 : decode cX12_paperTold 116 = .ok (.bipush (-2), 2) := by decide +kernel
theorem dX12_paperTold_118 : decode cX12_paperTold 118 = .ok (.ireturn, 1) := by decide +kernel
theorem dX12_lets_0 : decode cX12_lets 0 = .ok (.aload_n 0, 1) := by decide +kernel
theorem dX12_lets_1 : decode cX12_lets 1 = .ok (.getfield 29, 3) := by decide +kernel
theorem dX12_lets_4 : decode cX12_lets 4 = .ok (.iload_n 1, 1) := by decide +kernel
theorem dX12_lets_5 : decode cX12_lets 5 = .ok (.iaload, 1) := by decide +kernel
theorem dX12_lets_6 : decode cX12_lets 6 = .ok (.istore 4, 2) := by decide +kernel
theorem dX12_lets_8 : decode cX12_lets 8 = .ok (.aload_n 0, 1) := by decide +kernel
theorem dX12_lets_9 : decode cX12_lets 9 = .ok (.getfield 32, 3) := by decide +kernel
theorem dX12_lets_12 : decode cX12_lets 12 = .ok (.iload_n 1, 1) := by decide +kernel
theorem dX12_lets_13 : decode cX12_lets 13 = .ok (.iaload, 1) := by decide +kernel
theorem dX12_lets_14 : decode cX12_lets 14 = .ok (.istore 5, 2) := by decide +kernel
theorem dX12_lets_16 : decode cX12_lets 16 = .ok (.iload_n 3, 1) := by decide +kernel
theorem dX12_lets_17 : decode cX12_lets 17 = .ok (.aload_n 0, 1) := by decide +kernel
theorem dX12_lets_18 : decode cX12_lets 18 = .ok (.getfield 35, 3) := by decide +kernel
theorem dX12_lets_21 : decode cX12_lets 21 = .ok (.iload_n 1, 1) := by decide +kernel
theorem dX12_lets_22 : decode cX12_lets 22 = .ok (.iaload, 1) := by decide +kernel
theorem dX12_lets_23 : decode cX12_lets 23 = .ok (.isub, 1) := by decide +kernel
theorem dX12_lets_24 : decode cX12_lets 24 = .ok (.istore 6, 2) := by decide +kernel
theorem dX12_lets_26 : decode cX12_lets 26 = .ok (.aload_n 0, 1) := by decide +kernel
theorem dX12_lets_27 : decode cX12_lets 27 = .ok (.getfield 26, 3) := by decide +kernel
theorem dX12_lets_30 : decode cX12_lets 30 = .ok (.iload_n 1, 1) := by decide +kernel
theorem dX12_lets_31 : decode cX12_lets 31 = .ok (.iaload, 1) := by decide +kernel
theorem dX12_lets_32 : decode cX12_lets 32 = .ok (.iconst 5, 1) := by decide +kernel
theorem dX12_lets_33 : decode cX12_lets 33 = .ok (.if_icmp .ne 20, 3) := by decide +kernel
theorem dX12_lets_36 : decode cX12_lets 36 = .ok (.iload 6, 2) := by decide +kernel
theorem dX12_lets_38 : decode cX12_lets 38 = .ok (.ifCond .ne 9, 3) := by decide +kernel
theorem dX12_lets_41 : decode cX12_lets 41 = .ok (.iload_n 2, 1) := by decide +kernel
theorem dX12_lets_42 : decode cX12_lets 42 = .ok (.iload 4, 2) := by decide +kernel
theorem dX12_lets_44 : decode cX12_lets 44 = .ok (.if_icmp .eq 7, 3) := by decide +kernel
theorem dX12_lets_47 : decode cX12_lets 47 = .ok (.iconst 1, 1) := by decide +kernel
theorem dX12_lets_48 : decode cX12_lets 48 = .ok (.goto 4, 3) := by decide +kernel
theorem dX12_lets_51 : decode cX12_lets 51 = .ok (.iconst 0, 1) := by decide +kernel
theorem dX12_lets_52 : decode cX12_lets 52 = .ok (.ireturn, 1) := by decide +kernel
theorem dX12_lets_53 : decode cX12_lets 53 = .ok (.iload 6, 2) := by decide +kernel
theorem dX12_lets_55 : decode cX12_lets 55 = .ok (.ifCond .ne 15, 3) := by decide +kernel
theorem dX12_lets_58 : decode cX12_lets 58 = .ok (.iload_n 2, 1) := by decide +kernel
theorem dX12_lets_59 : decode cX12_lets 59 = .ok (.iload 4, 2) := by decide +kernel
theorem dX12_lets_61 : decode cX12_lets 61 = .ok (.if_icmp .ne 7, 3) := by decide +kernel
theorem dX12_lets_64 : decode cX12_lets 64 = .ok (.iconst 1, 1) := by decide +kernel
theorem dX12_lets_65 : decode cX12_lets 65 = .ok (.goto 4, 3) := by decide +kernel
theorem dX12_lets_68 : decode cX12_lets 68 = .ok (.iconst 0, 1) := by decide +kernel
theorem dX12_lets_69 : decode cX12_lets 69 = .ok (.ireturn, 1) := by decide +kernel
theorem dX12_lets_70 : decode cX12_lets 70 = .ok (.aload_n 0, 1) := by decide +kernel
theorem dX12_lets_71 : decode cX12_lets 71 = .ok (.getfield 26, 3) := by decide +kernel
theorem dX12_lets_74 : decode cX12_lets 74 = .ok (.iload_n 1, 1) := by decide +kernel
theorem dX12_lets_75 : decode cX12_lets 75 = .ok (.iaload, 1) := by decide +kernel
theorem dX12_lets_76 : decode cX12_lets 76 = .ok (.tableswitch 153 1 4 #[32, 99, 56, 116], 32) := by decide +kernel
theorem dX12_lets_108 : decode cX12_lets 108 = .ok (.iload 6, 2) := by decide +kernel
theorem dX12_lets_110 : decode cX12_lets 110 = .ok (.iconst 1, 1) := by decide +kernel
theorem dX12_lets_111 : decode cX12_lets 111 = .ok (.if_icmp .ne 15, 3) := by decide +kernel
theorem dX12_lets_114 : decode cX12_lets 114 = .ok (.iload_n 2, 1) := by decide +kernel
theorem dX12_lets_115 : decode cX12_lets 115 = .ok (.iload 4, 2) := by decide +kernel
theorem dX12_lets_117 : decode cX12_lets 117 = .ok (.if_icmp .eq 9, 3) := by decide +kernel
theorem dX12_lets_120 : decode cX12_lets 120 = .ok (.iload_n 2, 1) := by decide +kernel
theorem dX12_lets_121 : decode cX12_lets 121 = .ok (.iload 5, 2) := by decide +kernel
theorem dX12_lets_123 : decode cX12_lets 123 = .ok (.if_icmp .ne 7, 3) := by decide +kernel
theorem dX12_lets_126 : decode cX12_lets 126 = .ok (.iconst 1, 1) := by decide +kernel
theorem dX12_lets_127 : decode cX12_lets 127 = .ok (.goto 4, 3) := by decide +kernel
theorem dX12_lets_130 : decode cX12_lets 130 = .ok (.iconst 0, 1) := by decide +kernel
theorem dX12_lets_131 : decode cX12_lets 131 = .ok (.ireturn, 1) := by decide +kernel
theorem dX12_lets_132 : decode cX12_lets 132 = .ok (.iload 6, 2) := by decide +kernel
theorem dX12_lets_134 : decode cX12_lets 134 = .ok (.iconst 1, 1) := by decide +kernel
theorem dX12_lets_135 : decode cX12_lets 135 = .ok (.if_icmp .ne 23, 3) := by decide +kernel
theorem dX12_lets_138 : decode cX12_lets 138 = .ok (.iload_n 2, 1) := by decide +kernel
theorem dX12_lets_139 : decode cX12_lets 139 = .ok (.iload 4, 2) := by decide +kernel
theorem dX12_lets_141 : decode cX12_lets 141 = .ok (.if_icmp .eq 9, 3) := by decide +kernel
theorem dX12_lets_144 : decode cX12_lets 144 = .ok (.iload_n 2, 1) := by decide +kernel
theorem dX12_lets_145 : decode cX12_lets 145 = .ok (.iload 5, 2) := by decide +kernel
theorem dX12_lets_147 : decode cX12_lets 147 = .ok (.if_icmp .ne 7, 3) := by decide +kernel
theorem dX12_lets_150 : decode cX12_lets 150 = .ok (.iconst 1, 1) := by decide +kernel
theorem dX12_lets_151 : decode cX12_lets 151 = .ok (.goto 23, 3) := by decide +kernel
theorem dX12_lets_154 : decode cX12_lets 154 = .ok (.iconst 0, 1) := by decide +kernel
theorem dX12_lets_155 : decode cX12_lets 155 = .ok (.goto 19, 3) := by decide +kernel
theorem dX12_lets_158 : decode cX12_lets 158 = .ok (.iload 6, 2) := by decide +kernel
theorem dX12_lets_160 : decode cX12_lets 160 = .ok (.ifCond .gt 9, 3) := by decide +kernel
theorem dX12_lets_163 : decode cX12_lets 163 = .ok (.iload_n 2, 1) := by decide +kernel
theorem dX12_lets_164 : decode cX12_lets 164 = .ok (.iload 5, 2) := by decide +kernel
theorem dX12_lets_166 : decode cX12_lets 166 = .ok (.if_icmp .eq 7, 3) := by decide +kernel
theorem dX12_lets_169 : decode cX12_lets 169 = .ok (.iconst 1, 1) := by decide +kernel
theorem dX12_lets_170 : decode cX12_lets 170 = .ok (.goto 4, 3) := by decide +kernel
theorem dX12_lets_173 : decode cX12_lets 173 = .ok (.iconst 0, 1) := by decide +kernel
theorem dX12_lets_174 : decode cX12_lets 174 = .ok (.ireturn, 1) := by decide +kernel
theorem dX12_lets_175 : decode cX12_lets 175 = .ok (.iload 6, 2) := by decide +kernel
theorem dX12_lets_177 : decode cX12_lets 177 = .ok (.ifCond .gt 9, 3) := by decide +kernel
theorem dX12_lets_180 : decode cX12_lets 180 = .ok (.iload_n 2, 1) := by decide +kernel
theorem dX12_lets_181 : decode cX12_lets 181 = .ok (.iload 4, 2) := by decide +kernel
theorem dX12_lets_183 : decode cX12_lets 183 = .ok (.if_icmp .eq 7, 3) := by decide +kernel
theorem dX12_lets_186 : decode cX12_lets 186 = .ok (.iconst 1, 1) := by decide +kernel
theorem dX12_lets_187 : decode cX12_lets 187 = .ok (.goto 4, 3) := by decide +kernel
theorem dX12_lets_190 : decode cX12_lets 190 = .ok (.iconst 0, 1) := by decide +kernel
theorem dX12_lets_191 : decode cX12_lets 191 = .ok (.ireturn, 1) := by decide +kernel
theorem dX12_lets_192 : decode cX12_lets 192 = .ok (.iload 6, 2) := by decide +kernel
theorem dX12_lets_194 : decode cX12_lets 194 = .ok (.ifCond .ge 17, 3) := by decide +kernel
theorem dX12_lets_197 : decode cX12_lets 197 = .ok (.iload_n 2, 1) := by decide +kernel
theorem dX12_lets_198 : decode cX12_lets 198 = .ok (.iload 4, 2) := by decide +kernel
theorem dX12_lets_200 : decode cX12_lets 200 = .ok (.if_icmp .eq 7, 3) := by decide +kernel
theorem dX12_lets_203 : decode cX12_lets 203 = .ok (.iconst 1, 1) := by decide +kernel
theorem dX12_lets_204 : decode cX12_lets 204 = .ok (.goto 24, 3) := by decide +kernel
theorem dX12_lets_207 : decode cX12_lets 207 = .ok (.iconst 0, 1) := by decide +kernel
theorem dX12_lets_208 : decode cX12_lets 208 = .ok (.goto 20, 3) := by decide +kernel
theorem dX12_lets_211 : decode cX12_lets 211 = .ok (.iload 6, 2) := by decide +kernel
theorem dX12_lets_213 : decode cX12_lets 213 = .ok (.iconst 2, 1) := by decide +kernel
theorem dX12_lets_214 : decode cX12_lets 214 = .ok (.if_icmp .gt 9, 3) := by decide +kernel
theorem dX12_lets_217 : decode cX12_lets 217 = .ok (.iload_n 2, 1) := by decide +kernel
theorem dX12_lets_218 : decode cX12_lets 218 = .ok (.iload 4, 2) := by decide +kernel
theorem dX12_lets_220 : decode cX12_lets 220 = .ok (.if_icmp .ne 7, 3) := by decide +kernel
theorem dX12_lets_223 : decode cX12_lets 223 = .ok (.iconst 1, 1) := by decide +kernel
theorem dX12_lets_224 : decode cX12_lets 224 = .ok (.goto 4, 3) := by decide +kernel
theorem dX12_lets_227 : decode cX12_lets 227 = .ok (.iconst 0, 1) := by decide +kernel
theorem dX12_lets_228 : decode cX12_lets 228 = .ok (.ireturn, 1) := by decide +kernel
theorem dX12_lets_229 : decode cX12_lets 229 = .ok (.iconst 1, 1) := by decide +kernel
theorem dX12_lets_230 : decode cX12_lets 230 = .ok (.ireturn, 1) := by decide +kernel
theorem dX12_allows_0 : decode cX12_allows 0 = .ok (.aload_n 0, 1) := by decide +kernel
theorem dX12_allows_1 : decode cX12_allows 1 = .ok (.iload_n 1, 1) := by decide +kernel
theorem dX12_allows_2 : decode cX12_allows 2 = .ok (.invokevirtual 165, 3) := by decide +kernel
theorem dX12_allows_5 : decode cX12_allows 5 = .ok (.ifCond .eq 30, 3) := by decide +kernel
theorem dX12_allows_8 : decode cX12_allows 8 = .ok (.aload_n 0, 1) := by decide +kernel
theorem dX12_allows_9 : decode cX12_allows 9 = .ok (.iload_n 2, 1) := by decide +kernel
theorem dX12_allows_10 : decode cX12_allows 10 = .ok (.iload_n 3, 1) := by decide +kernel
theorem dX12_allows_11 : decode cX12_allows 11 = .ok (.invokevirtual 172, 3) := by decide +kernel
theorem dX12_allows_14 : decode cX12_allows 14 = .ok (.ifCond .eq 21, 3) := by decide +kernel
theorem dX12_allows_17 : decode cX12_allows 17 = .ok (.aload_n 0, 1) := by decide +kernel
theorem dX12_allows_18 : decode cX12_allows 18 = .ok (.iload_n 1, 1) := by decide +kernel
theorem dX12_allows_19 : decode cX12_allows 19 = .ok (.iload_n 2, 1) := by decide +kernel
theorem dX12_allows_20 : decode cX12_allows 20 = .ok (.iload_n 3, 1) := by decide +kernel
theorem dX12_allows_21 : decode cX12_allows 21 = .ok (.invokevirtual 176, 3) := by decide +kernel
theorem dX12_allows_24 : decode cX12_allows 24 = .ok (.ifCond .eq 7, 3) := by decide +kernel
theorem dX12_allows_27 : decode cX12_allows 27 = .ok (.iconst 1, 1) := by decide +kernel
theorem dX12_allows_28 : decode cX12_allows 28 = .ok (.goto 9, 3) := by decide +kernel
theorem dX12_allows_31 : decode cX12_allows 31 = .ok (.iconst 0, 1) := by decide +kernel
theorem dX12_allows_32 : decode cX12_allows 32 = .ok (.goto 5, 3) := by decide +kernel
theorem dX12_allows_35 : decode cX12_allows 35 = .ok (.bipush (-2), 2) := by decide +kernel
theorem dX12_allows_37 : decode cX12_allows 37 = .ok (.ireturn, 1) := by decide +kernel
theorem dX12_bitsOf_0 : decode cX12_bitsOf 0 = .ok (.iconst 0, 1) := by decide +kernel
theorem dX12_bitsOf_1 : decode cX12_bitsOf 1 = .ok (.istore_n 1, 1) := by decide +kernel
theorem dX12_bitsOf_2 : decode cX12_bitsOf 2 = .ok (.iload_n 0, 1) := by decide +kernel
theorem dX12_bitsOf_3 : decode cX12_bitsOf 3 = .ok (.istore_n 2, 1) := by decide +kernel
theorem dX12_bitsOf_4 : decode cX12_bitsOf 4 = .ok (.iload_n 2, 1) := by decide +kernel
theorem dX12_bitsOf_5 : decode cX12_bitsOf 5 = .ok (.ifCond .eq 15, 3) := by decide +kernel
theorem dX12_bitsOf_8 : decode cX12_bitsOf 8 = .ok (.iinc 1 1, 3) := by decide +kernel
theorem dX12_bitsOf_11 : decode cX12_bitsOf 11 = .ok (.iload_n 2, 1) := by decide +kernel
theorem dX12_bitsOf_12 : decode cX12_bitsOf 12 = .ok (.iload_n 2, 1) := by decide +kernel
theorem dX12_bitsOf_13 : decode cX12_bitsOf 13 = .ok (.iconst 1, 1) := by decide +kernel
theorem dX12_bitsOf_14 : decode cX12_bitsOf 14 = .ok (.isub, 1) := by decide +kernel
theorem dX12_bitsOf_15 : decode cX12_bitsOf 15 = .ok (.iand, 1) := by decide +kernel
theorem dX12_bitsOf_16 : decode cX12_bitsOf 16 = .ok (.istore_n 2, 1) := by decide +kernel
theorem dX12_bitsOf_17 : decode cX12_bitsOf 17 = .ok (.goto (-13), 3) := by decide +kernel
theorem dX12_bitsOf_20 : decode cX12_bitsOf 20 = .ok (.iload_n 1, 1) := by decide +kernel
theorem dX12_bitsOf_21 : decode cX12_bitsOf 21 = .ok (.ireturn, 1) := by decide +kernel
theorem dX12_forge_0 : decode cX12_forge 0 = .ok (.aload_n 0, 1) := by decide +kernel
theorem dX12_forge_1 : decode cX12_forge 1 = .ok (.iload_n 1, 1) := by decide +kernel
theorem dX12_forge_2 : decode cX12_forge 2 = .ok (.invokevirtual 165, 3) := by decide +kernel
theorem dX12_forge_5 : decode cX12_forge 5 = .ok (.ifCond .eq 12, 3) := by decide +kernel
theorem dX12_forge_8 : decode cX12_forge 8 = .ok (.iload_n 2, 1) := by decide +kernel
theorem dX12_forge_9 : decode cX12_forge 9 = .ok (.iconst 0, 1) := by decide +kernel
theorem dX12_forge_10 : decode cX12_forge 10 = .ok (.iconst 1, 1) := by decide +kernel
theorem dX12_forge_11 : decode cX12_forge 11 = .ok (.invokestatic 148, 3) := by decide +kernel
theorem dX12_forge_14 : decode cX12_forge 14 = .ok (.ifCond .ne 6, 3) := by decide +kernel
theorem dX12_forge_17 : decode cX12_forge 17 = .ok (.bipush (-2), 2) := by decide +kernel
theorem dX12_forge_19 : decode cX12_forge 19 = .ok (.ireturn, 1) := by decide +kernel
theorem dX12_forge_20 : decode cX12_forge 20 = .ok (.aload_n 0, 1) := by decide +kernel
theorem dX12_forge_21 : decode cX12_forge 21 = .ok (.getfield 41, 3) := by decide +kernel
theorem dX12_forge_24 : decode cX12_forge 24 = .ok (.iload_n 1, 1) := by decide +kernel
theorem dX12_forge_25 : decode cX12_forge 25 = .ok (.iload_n 2, 1) := by decide +kernel
theorem dX12_forge_26 : decode cX12_forge 26 = .ok (.iconst 1, 1) := by decide +kernel
theorem dX12_forge_27 : decode cX12_forge 27 = .ok (.if_icmp .ne 7, 3) := by decide +kernel
theorem dX12_forge_30 : decode cX12_forge 30 = .ok (.iconst 1, 1) := by decide +kernel
theorem dX12_forge_31 : decode cX12_forge 31 = .ok (.goto 4, 3) := by decide +kernel
theorem dX12_forge_34 : decode cX12_forge 34 = .ok (.iconst 0, 1) := by decide +kernel
theorem dX12_forge_35 : decode cX12_forge 35 = .ok (.bastore, 1) := by decide +kernel
theorem dX12_forge_36 : decode cX12_forge 36 = .ok (.aload_n 0, 1) := by decide +kernel
theorem dX12_forge_37 : decode cX12_forge 37 = .ok (.iconst (-1), 1) := by decide +kernel
theorem dX12_forge_38 : decode cX12_forge 38 = .ok (.invokevirtual 168, 3) := by decide +kernel
theorem dX12_forge_41 : decode cX12_forge 41 = .ok (.invokestatic 179, 3) := by decide +kernel
theorem dX12_forge_44 : decode cX12_forge 44 = .ok (.ireturn, 1) := by decide +kernel
theorem dX12_fall_0 : decode cX12_fall 0 = .ok (.aload_n 0, 1) := by decide +kernel
theorem dX12_fall_1 : decode cX12_fall 1 = .ok (.iload_n 1, 1) := by decide +kernel
theorem dX12_fall_2 : decode cX12_fall 2 = .ok (.invokevirtual 165, 3) := by decide +kernel
theorem dX12_fall_5 : decode cX12_fall 5 = .ok (.ifCond .eq 19, 3) := by decide +kernel
theorem dX12_fall_8 : decode cX12_fall 8 = .ok (.aload_n 0, 1) := by decide +kernel
theorem dX12_fall_9 : decode cX12_fall 9 = .ok (.iconst (-1), 1) := by decide +kernel
theorem dX12_fall_10 : decode cX12_fall 10 = .ok (.invokevirtual 168, 3) := by decide +kernel
theorem dX12_fall_13 : decode cX12_fall 13 = .ok (.aload_n 0, 1) := by decide +kernel
theorem dX12_fall_14 : decode cX12_fall 14 = .ok (.iload_n 1, 1) := by decide +kernel
theorem dX12_fall_15 : decode cX12_fall 15 = .ok (.invokevirtual 168, 3) := by decide +kernel
theorem dX12_fall_18 : decode cX12_fall 18 = .ok (.iconst (-1), 1) := by decide +kernel
theorem dX12_fall_19 : decode cX12_fall 19 = .ok (.ixor, 1) := by decide +kernel
theorem dX12_fall_20 : decode cX12_fall 20 = .ok (.iand, 1) := by decide +kernel
theorem dX12_fall_21 : decode cX12_fall 21 = .ok (.goto 5, 3) := by decide +kernel
theorem dX12_fall_24 : decode cX12_fall 24 = .ok (.bipush (-2), 2) := by decide +kernel
theorem dX12_fall_26 : decode cX12_fall 26 = .ok (.ireturn, 1) := by decide +kernel
theorem dX12_layOut_0 : decode cX12_layOut 0 = .ok (.aload_n 0, 1) := by decide +kernel
theorem dX12_layOut_1 : decode cX12_layOut 1 = .ok (.iconst (-1), 1) := by decide +kernel
theorem dX12_layOut_2 : decode cX12_layOut 2 = .ok (.invokevirtual 168, 3) := by decide +kernel
theorem dX12_layOut_5 : decode cX12_layOut 5 = .ok (.istore_n 1, 1) := by decide +kernel
theorem dX12_layOut_6 : decode cX12_layOut 6 = .ok (.iconst 0, 1) := by decide +kernel
theorem dX12_layOut_7 : decode cX12_layOut 7 = .ok (.istore_n 2, 1) := by decide +kernel
theorem dX12_layOut_8 : decode cX12_layOut 8 = .ok (.iload_n 2, 1) := by decide +kernel
theorem dX12_layOut_9 : decode cX12_layOut 9 = .ok (.aload_n 0, 1) := by decide +kernel
theorem dX12_layOut_10 : decode cX12_layOut 10 = .ok (.getfield 124, 3) := by decide +kernel
theorem dX12_layOut_13 : decode cX12_layOut 13 = .ok (.if_icmp .ge 107, 3) := by decide +kernel
theorem dX12_layOut_16 : decode cX12_layOut 16 = .ok (.iconst 0, 1) := by decide +kernel
theorem dX12_layOut_17 : decode cX12_layOut 17 = .ok (.istore_n 3, 1) := by decide +kernel
theorem dX12_layOut_18 : decode cX12_layOut 18 = .ok (.iload_n 3, 1) := by decide +kernel
theorem dX12_layOut_19 : decode cX12_layOut 19 = .ok (.iconst 5, 1) := by decide +kernel
theorem dX12_layOut_20 : decode cX12_layOut 20 = .ok (.if_icmp .ge 94, 3) := by decide +kernel
theorem dX12_layOut_23 : decode cX12_layOut 23 = .ok (.iload_n 2, 1) := by decide +kernel
theorem dX12_layOut_24 : decode cX12_layOut 24 = .ok (.ifCond .gt 15, 3) := by decide +kernel
theorem dX12_layOut_27 : decode cX12_layOut 27 = .ok (.aload_n 0, 1) := by decide +kernel
theorem dX12_layOut_28 : decode cX12_layOut 28 = .ok (.getfield 140, 3) := by decide +kernel
theorem dX12_layOut_31 : decode cX12_layOut 31 = .ok (.iload_n 3, 1) := by decide +kernel
theorem dX12_layOut_32 : decode cX12_layOut 32 = .ok (.ishr, 1) := by decide +kernel
theorem dX12_layOut_33 : decode cX12_layOut 33 = .ok (.iconst 1, 1) := by decide +kernel
theorem dX12_layOut_34 : decode cX12_layOut 34 = .ok (.iand, 1) := by decide +kernel
theorem dX12_layOut_35 : decode cX12_layOut 35 = .ok (.iconst 1, 1) := by decide +kernel
theorem dX12_layOut_36 : decode cX12_layOut 36 = .ok (.if_icmp .ne 7, 3) := by decide +kernel
theorem dX12_layOut_39 : decode cX12_layOut 39 = .ok (.iconst 1, 1) := by decide +kernel
theorem dX12_layOut_40 : decode cX12_layOut 40 = .ok (.goto 4, 3) := by decide +kernel
theorem dX12_layOut_43 : decode cX12_layOut 43 = .ok (.iconst 0, 1) := by decide +kernel
theorem dX12_layOut_44 : decode cX12_layOut 44 = .ok (.istore 4, 2) := by decide +kernel
theorem dX12_layOut_46 : decode cX12_layOut 46 = .ok (.iconst 0, 1) := by decide +kernel
theorem dX12_layOut_47 : decode cX12_layOut 47 = .ok (.istore 5, 2) := by decide +kernel
theorem dX12_layOut_49 : decode cX12_layOut 49 = .ok (.iload 5, 2) := by decide +kernel
theorem dX12_layOut_51 : decode cX12_layOut 51 = .ok (.aload_n 0, 1) := by decide +kernel
theorem dX12_layOut_52 : decode cX12_layOut 52 = .ok (.getfield 162, 3) := by decide +kernel
theorem dX12_layOut_55 : decode cX12_layOut 55 = .ok (.if_icmp .ge 41, 3) := by decide +kernel
theorem dX12_layOut_58 : decode cX12_layOut 58 = .ok (.iload 4, 2) := by decide +kernel
theorem dX12_layOut_60 : decode cX12_layOut 60 = .ok (.ifCond .eq 27, 3) := by decide +kernel
theorem dX12_layOut_63 : decode cX12_layOut 63 = .ok (.iload_n 1, 1) := by decide +kernel
theorem dX12_layOut_64 : decode cX12_layOut 64 = .ok (.iload 5, 2) := by decide +kernel
theorem dX12_layOut_66 : decode cX12_layOut 66 = .ok (.ishr, 1) := by decide +kernel
theorem dX12_layOut_67 : decode cX12_layOut 67 = .ok (.iconst 1, 1) := by decide +kernel
theorem dX12_layOut_68 : decode cX12_layOut 68 = .ok (.iand, 1) := by decide +kernel
theorem dX12_layOut_69 : decode cX12_layOut 69 = .ok (.ifCond .eq 14, 3) := by decide +kernel
theorem dX12_layOut_72 : decode cX12_layOut 72 = .ok (.aload_n 0, 1) := by decide +kernel
theorem dX12_layOut_73 : decode cX12_layOut 73 = .ok (.iload 5, 2) := by decide +kernel
theorem dX12_layOut_75 : decode cX12_layOut 75 = .ok (.iload_n 3, 1) := by decide +kernel
theorem dX12_layOut_76 : decode cX12_layOut 76 = .ok (.iload_n 2, 1) := by decide +kernel
theorem dX12_layOut_77 : decode cX12_layOut 77 = .ok (.invokevirtual 176, 3) := by decide +kernel
theorem dX12_layOut_80 : decode cX12_layOut 80 = .ok (.ifCond .eq 7, 3) := by decide +kernel
theorem dX12_layOut_83 : decode cX12_layOut 83 = .ok (.iconst 1, 1) := by decide +kernel
theorem dX12_layOut_84 : decode cX12_layOut 84 = .ok (.goto 4, 3) := by decide +kernel
theorem dX12_layOut_87 : decode cX12_layOut 87 = .ok (.iconst 0, 1) := by decide +kernel
theorem dX12_layOut_88 : decode cX12_layOut 88 = .ok (.istore 4, 2) := by decide +kernel
theorem dX12_layOut_90 : decode cX12_layOut 90 = .ok (.iinc 5 1, 3) := by decide +kernel
theorem dX12_layOut_93 : decode cX12_layOut 93 = .ok (.goto (-44), 3) := by decide +kernel
theorem dX12_layOut_96 : decode cX12_layOut 96 = .ok (.aload_n 0, 1) := by decide +kernel
theorem dX12_layOut_97 : decode cX12_layOut 97 = .ok (.getfield 45, 3) := by decide +kernel
theorem dX12_layOut_100 : decode cX12_layOut 100 = .ok (.iconst 5, 1) := by decide +kernel
theorem dX12_layOut_101 : decode cX12_layOut 101 = .ok (.iload_n 2, 1) := by decide +kernel
theorem dX12_layOut_102 : decode cX12_layOut 102 = .ok (.imul, 1) := by decide +kernel
theorem dX12_layOut_103 : decode cX12_layOut 103 = .ok (.iload_n 3, 1) := by decide +kernel
theorem dX12_layOut_104 : decode cX12_layOut 104 = .ok (.iadd, 1) := by decide +kernel
theorem dX12_layOut_105 : decode cX12_layOut 105 = .ok (.iload 4, 2) := by decide +kernel
theorem dX12_layOut_107 : decode cX12_layOut 107 = .ok (.bastore, 1) := by decide +kernel
theorem dX12_layOut_108 : decode cX12_layOut 108 = .ok (.iinc 3 1, 3) := by decide +kernel
theorem dX12_layOut_111 : decode cX12_layOut 111 = .ok (.goto (-93), 3) := by decide +kernel
theorem dX12_layOut_114 : decode cX12_layOut 114 = .ok (.iinc 2 1, 3) := by decide +kernel
theorem dX12_layOut_117 : decode cX12_layOut 117 = .ok (.goto (-109), 3) := by decide +kernel
theorem dX12_layOut_120 : decode cX12_layOut 120 = .ok (.iconst 0, 1) := by decide +kernel
theorem dX12_layOut_121 : decode cX12_layOut 121 = .ok (.istore_n 2, 1) := by decide +kernel
theorem dX12_layOut_122 : decode cX12_layOut 122 = .ok (.iload_n 2, 1) := by decide +kernel
theorem dX12_layOut_123 : decode cX12_layOut 123 = .ok (.aload_n 0, 1) := by decide +kernel
theorem dX12_layOut_124 : decode cX12_layOut 124 = .ok (.getfield 124, 3) := by decide +kernel
theorem dX12_layOut_127 : decode cX12_layOut 127 = .ok (.iconst 1, 1) := by decide +kernel
theorem dX12_layOut_128 : decode cX12_layOut 128 = .ok (.isub, 1) := by decide +kernel
theorem dX12_layOut_129 : decode cX12_layOut 129 = .ok (.if_icmp .ge 75, 3) := by decide +kernel
theorem dX12_layOut_132 : decode cX12_layOut 132 = .ok (.iconst 0, 1) := by decide +kernel
theorem dX12_layOut_133 : decode cX12_layOut 133 = .ok (.istore_n 3, 1) := by decide +kernel
theorem dX12_layOut_134 : decode cX12_layOut 134 = .ok (.iload_n 3, 1) := by decide +kernel
theorem dX12_layOut_135 : decode cX12_layOut 135 = .ok (.iconst 5, 1) := by decide +kernel
theorem dX12_layOut_136 : decode cX12_layOut 136 = .ok (.if_icmp .ge 62, 3) := by decide +kernel
theorem dX12_layOut_139 : decode cX12_layOut 139 = .ok (.iconst 0, 1) := by decide +kernel
theorem dX12_layOut_140 : decode cX12_layOut 140 = .ok (.istore 4, 2) := by decide +kernel
theorem dX12_layOut_142 : decode cX12_layOut 142 = .ok (.iload 4, 2) := by decide +kernel
theorem dX12_layOut_144 : decode cX12_layOut 144 = .ok (.iconst 5, 1) := by decide +kernel
theorem dX12_layOut_145 : decode cX12_layOut 145 = .ok (.if_icmp .ge 47, 3) := by decide +kernel
theorem dX12_layOut_148 : decode cX12_layOut 148 = .ok (.aload_n 0, 1) := by decide +kernel
theorem dX12_layOut_149 : decode cX12_layOut 149 = .ok (.getfield 48, 3) := by decide +kernel
theorem dX12_layOut_152 : decode cX12_layOut 152 = .ok (.bipush 25, 2) := by decide +kernel
theorem dX12_layOut_154 : decode cX12_layOut 154 = .ok (.iload_n 2, 1) := by decide +kernel
theorem dX12_layOut_155 : decode cX12_layOut 155 = .ok (.imul, 1) := by decide +kernel
theorem dX12_layOut_156 : decode cX12_layOut 156 = .ok (.iconst 5, 1) := by decide +kernel
theorem dX12_layOut_157 : decode cX12_layOut 157 = .ok (.iload_n 3, 1) := by decide +kernel
theorem dX12_layOut_158 : decode cX12_layOut 158 = .ok (.imul, 1) := by decide +kernel
theorem dX12_layOut_159 : decode cX12_layOut 159 = .ok (.iadd, 1) := by decide +kernel
theorem dX12_layOut_160 : decode cX12_layOut 160 = .ok (.iload 4, 2) := by decide +kernel
theorem dX12_layOut_162 : decode cX12_layOut 162 = .ok (.iadd, 1) := by decide +kernel
theorem dX12_layOut_163 : decode cX12_layOut 163 = .ok (.iload_n 3, 1) := by decide +kernel
theorem dX12_layOut_164 : decode cX12_layOut 164 = .ok (.iload 4, 2) := by decide +kernel
theorem dX12_layOut_166 : decode cX12_layOut 166 = .ok (.if_icmp .eq 14, 3) := by decide +kernel
theorem dX12_layOut_169 : decode cX12_layOut 169 = .ok (.aload_n 0, 1) := by decide +kernel
theorem dX12_layOut_170 : decode cX12_layOut 170 = .ok (.iload_n 3, 1) := by decide +kernel
theorem dX12_layOut_171 : decode cX12_layOut 171 = .ok (.iload 4, 2) := by decide +kernel
theorem dX12_layOut_173 : decode cX12_layOut 173 = .ok (.iload_n 2, 1) := by decide +kernel
theorem dX12_layOut_174 : decode cX12_layOut 174 = .ok (.invokevirtual 182, 3) := by decide +kernel
theorem dX12_layOut_177 : decode cX12_layOut 177 = .ok (.ifCond .le 7, 3) := by decide +kernel
theorem dX12_layOut_180 : decode cX12_layOut 180 = .ok (.iconst 1, 1) := by decide +kernel
theorem dX12_layOut_181 : decode cX12_layOut 181 = .ok (.goto 4, 3) := by decide +kernel
theorem dX12_layOut_184 : decode cX12_layOut 184 = .ok (.iconst 0, 1) := by decide +kernel
theorem dX12_layOut_185 : decode cX12_layOut 185 = .ok (.bastore, 1) := by decide +kernel
theorem dX12_layOut_186 : decode cX12_layOut 186 = .ok (.iinc 4 1, 3) := by decide +kernel
theorem dX12_layOut_189 : decode cX12_layOut 189 = .ok (.goto (-47), 3) := by decide +kernel
theorem dX12_layOut_192 : decode cX12_layOut 192 = .ok (.iinc 3 1, 3) := by decide +kernel
theorem dX12_layOut_195 : decode cX12_layOut 195 = .ok (.goto (-61), 3) := by decide +kernel
theorem dX12_layOut_198 : decode cX12_layOut 198 = .ok (.iinc 2 1, 3) := by decide +kernel
theorem dX12_layOut_201 : decode cX12_layOut 201 = .ok (.goto (-79), 3) := by decide +kernel
theorem dX12_layOut_204 : decode cX12_layOut 204 = .ok (.return_, 1) := by decide +kernel
theorem dX12_counted_0 : decode cX12_counted 0 = .ok (.lconst 0, 1) := by decide +kernel
theorem dX12_counted_1 : decode cX12_counted 1 = .ok (.lstore_n 1, 1) := by decide +kernel
theorem dX12_counted_2 : decode cX12_counted 2 = .ok (.iconst 0, 1) := by decide +kernel
theorem dX12_counted_3 : decode cX12_counted 3 = .ok (.istore_n 3, 1) := by decide +kernel
theorem dX12_counted_4 : decode cX12_counted 4 = .ok (.iload_n 3, 1) := by decide +kernel
theorem dX12_counted_5 : decode cX12_counted 5 = .ok (.iconst 5, 1) := by decide +kernel
theorem dX12_counted_6 : decode cX12_counted 6 = .ok (.if_icmp .ge 29, 3) := by decide +kernel
theorem dX12_counted_9 : decode cX12_counted 9 = .ok (.aload_n 0, 1) := by decide +kernel
theorem dX12_counted_10 : decode cX12_counted 10 = .ok (.getfield 51, 3) := by decide +kernel
theorem dX12_counted_13 : decode cX12_counted 13 = .ok (.iload_n 3, 1) := by decide +kernel
theorem dX12_counted_14 : decode cX12_counted 14 = .ok (.aload_n 0, 1) := by decide +kernel
theorem dX12_counted_15 : decode cX12_counted 15 = .ok (.getfield 45, 3) := by decide +kernel
theorem dX12_counted_18 : decode cX12_counted 18 = .ok (.iload_n 3, 1) := by decide +kernel
theorem dX12_counted_19 : decode cX12_counted 19 = .ok (.baload, 1) := by decide +kernel
theorem dX12_counted_20 : decode cX12_counted 20 = .ok (.ifCond .eq 7, 3) := by decide +kernel
theorem dX12_counted_23 : decode cX12_counted 23 = .ok (.lconst 1, 1) := by decide +kernel
theorem dX12_counted_24 : decode cX12_counted 24 = .ok (.goto 4, 3) := by decide +kernel
theorem dX12_counted_27 : decode cX12_counted 27 = .ok (.lconst 0, 1) := by decide +kernel
theorem dX12_counted_28 : decode cX12_counted 28 = .ok (.lastore, 1) := by decide +kernel
theorem dX12_counted_29 : decode cX12_counted 29 = .ok (.iinc 3 1, 3) := by decide +kernel
theorem dX12_counted_32 : decode cX12_counted 32 = .ok (.goto (-28), 3) := by decide +kernel
theorem dX12_counted_35 : decode cX12_counted 35 = .ok (.iconst 1, 1) := by decide +kernel
theorem dX12_counted_36 : decode cX12_counted 36 = .ok (.istore_n 3, 1) := by decide +kernel
theorem dX12_counted_37 : decode cX12_counted 37 = .ok (.iload_n 3, 1) := by decide +kernel
theorem dX12_counted_38 : decode cX12_counted 38 = .ok (.aload_n 0, 1) := by decide +kernel
theorem dX12_counted_39 : decode cX12_counted 39 = .ok (.getfield 124, 3) := by decide +kernel
theorem dX12_counted_42 : decode cX12_counted 42 = .ok (.if_icmp .ge 117, 3) := by decide +kernel
theorem dX12_counted_45 : decode cX12_counted 45 = .ok (.iconst 0, 1) := by decide +kernel
theorem dX12_counted_46 : decode cX12_counted 46 = .ok (.istore 4, 2) := by decide +kernel
theorem dX12_counted_48 : decode cX12_counted 48 = .ok (.iload 4, 2) := by decide +kernel
theorem dX12_counted_50 : decode cX12_counted 50 = .ok (.iconst 5, 1) := by decide +kernel
theorem dX12_counted_51 : decode cX12_counted 51 = .ok (.if_icmp .ge 102, 3) := by decide +kernel
theorem dX12_counted_54 : decode cX12_counted 54 = .ok (.lconst 0, 1) := by decide +kernel
theorem dX12_counted_55 : decode cX12_counted 55 = .ok (.lstore 5, 2) := by decide +kernel
theorem dX12_counted_57 : decode cX12_counted 57 = .ok (.iconst 0, 1) := by decide +kernel
theorem dX12_counted_58 : decode cX12_counted 58 = .ok (.istore 7, 2) := by decide +kernel
theorem dX12_counted_60 : decode cX12_counted 60 = .ok (.iload 7, 2) := by decide +kernel
theorem dX12_counted_62 : decode cX12_counted 62 = .ok (.iconst 5, 1) := by decide +kernel
theorem dX12_counted_63 : decode cX12_counted 63 = .ok (.if_icmp .ge 53, 3) := by decide +kernel
theorem dX12_counted_66 : decode cX12_counted 66 = .ok (.lload 5, 2) := by decide +kernel
theorem dX12_counted_68 : decode cX12_counted 68 = .ok (.aload_n 0, 1) := by decide +kernel
theorem dX12_counted_69 : decode cX12_counted 69 = .ok (.getfield 48, 3) := by decide +kernel
theorem dX12_counted_72 : decode cX12_counted 72 = .ok (.bipush 25, 2) := by decide +kernel
theorem dX12_counted_74 : decode cX12_counted 74 = .ok (.iload_n 3, 1) := by decide +kernel
theorem dX12_counted_75 : decode cX12_counted 75 = .ok (.iconst 1, 1) := by decide +kernel
theorem dX12_counted_76 : decode cX12_counted 76 = .ok (.isub, 1) := by decide +kernel
theorem dX12_counted_77 : decode cX12_counted 77 = .ok (.imul, 1) := by decide +kernel
theorem dX12_counted_78 : decode cX12_counted 78 = .ok (.iconst 5, 1) := by decide +kernel
theorem dX12_counted_79 : decode cX12_counted 79 = .ok (.iload 7, 2) := by decide +kernel
theorem dX12_counted_81 : decode cX12_counted 81 = .ok (.imul, 1) := by decide +kernel
theorem dX12_counted_82 : decode cX12_counted 82 = .ok (.iadd, 1) := by decide +kernel
theorem dX12_counted_83 : decode cX12_counted 83 = .ok (.iload 4, 2) := by decide +kernel
theorem dX12_counted_85 : decode cX12_counted 85 = .ok (.iadd, 1) := by decide +kernel
theorem dX12_counted_86 : decode cX12_counted 86 = .ok (.baload, 1) := by decide +kernel
theorem dX12_counted_87 : decode cX12_counted 87 = .ok (.ifCond .eq 19, 3) := by decide +kernel
theorem dX12_counted_90 : decode cX12_counted 90 = .ok (.aload_n 0, 1) := by decide +kernel
theorem dX12_counted_91 : decode cX12_counted 91 = .ok (.getfield 51, 3) := by decide +kernel
theorem dX12_counted_94 : decode cX12_counted 94 = .ok (.iconst 5, 1) := by decide +kernel
theorem dX12_counted_95 : decode cX12_counted 95 = .ok (.iload_n 3, 1) := by decide +kernel
theorem dX12_counted_96 : decode cX12_counted 96 = .ok (.iconst 1, 1) := by decide +kernel
theorem dX12_counted_97 : decode cX12_counted 97 = .ok (.isub, 1) := by decide +kernel
theorem dX12_counted_98 : decode cX12_counted 98 = .ok (.imul, 1) := by decide +kernel
theorem dX12_counted_99 : decode cX12_counted 99 = .ok (.iload 7, 2) := by decide +kernel
theorem dX12_counted_101 : decode cX12_counted 101 = .ok (.iadd, 1) := by decide +kernel
theorem dX12_counted_102 : decode cX12_counted 102 = .ok (.laload, 1) := by decide +kernel
theorem dX12_counted_103 : decode cX12_counted 103 = .ok (.goto 4, 3) := by decide +kernel
theorem dX12_counted_106 : decode cX12_counted 106 = .ok (.lconst 0, 1) := by decide +kernel
theorem dX12_counted_107 : decode cX12_counted 107 = .ok (.ladd, 1) := by decide +kernel
theorem dX12_counted_108 : decode cX12_counted 108 = .ok (.lstore 5, 2) := by decide +kernel
theorem dX12_counted_110 : decode cX12_counted 110 = .ok (.iinc 7 1, 3) := by decide +kernel
theorem dX12_counted_113 : decode cX12_counted 113 = .ok (.goto (-53), 3) := by decide +kernel
theorem dX12_counted_116 : decode cX12_counted 116 = .ok (.aload_n 0, 1) := by decide +kernel
theorem dX12_counted_117 : decode cX12_counted 117 = .ok (.getfield 51, 3) := by decide +kernel
theorem dX12_counted_120 : decode cX12_counted 120 = .ok (.iconst 5, 1) := by decide +kernel
theorem dX12_counted_121 : decode cX12_counted 121 = .ok (.iload_n 3, 1) := by decide +kernel
theorem dX12_counted_122 : decode cX12_counted 122 = .ok (.imul, 1) := by decide +kernel
theorem dX12_counted_123 : decode cX12_counted 123 = .ok (.iload 4, 2) := by decide +kernel
theorem dX12_counted_125 : decode cX12_counted 125 = .ok (.iadd, 1) := by decide +kernel
theorem dX12_counted_126 : decode cX12_counted 126 = .ok (.aload_n 0, 1) := by decide +kernel
theorem dX12_counted_127 : decode cX12_counted 127 = .ok (.getfield 45, 3) := by decide +kernel
theorem dX12_counted_130 : decode cX12_counted 130 = .ok (.iconst 5, 1) := by decide +kernel
theorem dX12_counted_131 : decode cX12_counted 131 = .ok (.iload_n 3, 1) := by decide +kernel
theorem dX12_counted_132 : decode cX12_counted 132 = .ok (.imul, 1) := by decide +kernel
theorem dX12_counted_133 : decode cX12_counted 133 = .ok (.iload 4, 2) := by decide +kernel
theorem dX12_counted_135 : decode cX12_counted 135 = .ok (.iadd, 1) := by decide +kernel
theorem dX12_counted_136 : decode cX12_counted 136 = .ok (.baload, 1) := by decide +kernel
theorem dX12_counted_137 : decode cX12_counted 137 = .ok (.ifCond .eq 8, 3) := by decide +kernel
theorem dX12_counted_140 : decode cX12_counted 140 = .ok (.lload 5, 2) := by decide +kernel
theorem dX12_counted_142 : decode cX12_counted 142 = .ok (.goto 4, 3) := by decide +kernel
theorem dX12_counted_145 : decode cX12_counted 145 = .ok (.lconst 0, 1) := by decide +kernel
theorem dX12_counted_146 : decode cX12_counted 146 = .ok (.lastore, 1) := by decide +kernel
theorem dX12_counted_147 : decode cX12_counted 147 = .ok (.iinc 4 1, 3) := by decide +kernel
theorem dX12_counted_150 : decode cX12_counted 150 = .ok (.goto (-102), 3) := by decide +kernel
theorem dX12_counted_153 : decode cX12_counted 153 = .ok (.iinc 3 1, 3) := by decide +kernel
theorem dX12_counted_156 : decode cX12_counted 156 = .ok (.goto (-119), 3) := by decide +kernel
theorem dX12_counted_159 : decode cX12_counted 159 = .ok (.aload_n 0, 1) := by decide +kernel
theorem dX12_counted_160 : decode cX12_counted 160 = .ok (.getfield 124, 3) := by decide +kernel
theorem dX12_counted_163 : decode cX12_counted 163 = .ok (.iconst 1, 1) := by decide +kernel
theorem dX12_counted_164 : decode cX12_counted 164 = .ok (.isub, 1) := by decide +kernel
theorem dX12_counted_165 : decode cX12_counted 165 = .ok (.istore_n 3, 1) := by decide +kernel
theorem dX12_counted_166 : decode cX12_counted 166 = .ok (.iload_n 3, 1) := by decide +kernel
theorem dX12_counted_167 : decode cX12_counted 167 = .ok (.ifCond .lt 139, 3) := by decide +kernel
theorem dX12_counted_170 : decode cX12_counted 170 = .ok (.iconst 0, 1) := by decide +kernel
theorem dX12_counted_171 : decode cX12_counted 171 = .ok (.istore 4, 2) := by decide +kernel
theorem dX12_counted_173 : decode cX12_counted 173 = .ok (.iload 4, 2) := by decide +kernel
theorem dX12_counted_175 : decode cX12_counted 175 = .ok (.iconst 5, 1) := by decide +kernel
theorem dX12_counted_176 : decode cX12_counted 176 = .ok (.if_icmp .ge 124, 3) := by decide +kernel
theorem dX12_counted_179 : decode cX12_counted 179 = .ok (.iload_n 3, 1) := by decide +kernel
theorem dX12_counted_180 : decode cX12_counted 180 = .ok (.aload_n 0, 1) := by decide +kernel
theorem dX12_counted_181 : decode cX12_counted 181 = .ok (.getfield 124, 3) := by decide +kernel
theorem dX12_counted_184 : decode cX12_counted 184 = .ok (.iconst 1, 1) := by decide +kernel
theorem dX12_counted_185 : decode cX12_counted 185 = .ok (.isub, 1) := by decide +kernel
theorem dX12_counted_186 : decode cX12_counted 186 = .ok (.if_icmp .ne 7, 3) := by decide +kernel
theorem dX12_counted_189 : decode cX12_counted 189 = .ok (.lconst 1, 1) := by decide +kernel
theorem dX12_counted_190 : decode cX12_counted 190 = .ok (.goto 4, 3) := by decide +kernel
theorem dX12_counted_193 : decode cX12_counted 193 = .ok (.lconst 0, 1) := by decide +kernel
theorem dX12_counted_194 : decode cX12_counted 194 = .ok (.lstore 5, 2) := by decide +kernel
theorem dX12_counted_196 : decode cX12_counted 196 = .ok (.iconst 0, 1) := by decide +kernel
theorem dX12_counted_197 : decode cX12_counted 197 = .ok (.istore 7, 2) := by decide +kernel
theorem dX12_counted_199 : decode cX12_counted 199 = .ok (.iload 7, 2) := by decide +kernel
theorem dX12_counted_201 : decode cX12_counted 201 = .ok (.iconst 5, 1) := by decide +kernel
theorem dX12_counted_202 : decode cX12_counted 202 = .ok (.if_icmp .ge 61, 3) := by decide +kernel
theorem dX12_counted_205 : decode cX12_counted 205 = .ok (.iload_n 3, 1) := by decide +kernel
theorem dX12_counted_206 : decode cX12_counted 206 = .ok (.aload_n 0, 1) := by decide +kernel
theorem dX12_counted_207 : decode cX12_counted 207 = .ok (.getfield 124, 3) := by decide +kernel
theorem dX12_counted_210 : decode cX12_counted 210 = .ok (.iconst 1, 1) := by decide +kernel
theorem dX12_counted_211 : decode cX12_counted 211 = .ok (.isub, 1) := by decide +kernel
theorem dX12_counted_212 : decode cX12_counted 212 = .ok (.if_icmp .ge 51, 3) := by decide +kernel
theorem dX12_counted_215 : decode cX12_counted 215 = .ok (.lload 5, 2) := by decide +kernel
theorem dX12_counted_217 : decode cX12_counted 217 = .ok (.aload_n 0, 1) := by decide +kernel
theorem dX12_counted_218 : decode cX12_counted 218 = .ok (.getfield 48, 3) := by decide +kernel
theorem dX12_counted_221 : decode cX12_counted 221 = .ok (.bipush 25, 2) := by decide +kernel
theorem dX12_counted_223 : decode cX12_counted 223 = .ok (.iload_n 3, 1) := by decide +kernel
theorem dX12_counted_224 : decode cX12_counted 224 = .ok (.imul, 1) := by decide +kernel
theorem dX12_counted_225 : decode cX12_counted 225 = .ok (.iconst 5, 1) := by decide +kernel
theorem dX12_counted_226 : decode cX12_counted 226 = .ok (.iload 4, 2) := by decide +kernel
theorem dX12_counted_228 : decode cX12_counted 228 = .ok (.imul, 1) := by decide +kernel
theorem dX12_counted_229 : decode cX12_counted 229 = .ok (.iadd, 1) := by decide +kernel
theorem dX12_counted_230 : decode cX12_counted 230 = .ok (.iload 7, 2) := by decide +kernel
theorem dX12_counted_232 : decode cX12_counted 232 = .ok (.iadd, 1) := by decide +kernel
theorem dX12_counted_233 : decode cX12_counted 233 = .ok (.baload, 1) := by decide +kernel
theorem dX12_counted_234 : decode cX12_counted 234 = .ok (.ifCond .eq 19, 3) := by decide +kernel
theorem dX12_counted_237 : decode cX12_counted 237 = .ok (.aload_n 0, 1) := by decide +kernel
theorem dX12_counted_238 : decode cX12_counted 238 = .ok (.getfield 55, 3) := by decide +kernel
theorem dX12_counted_241 : decode cX12_counted 241 = .ok (.iconst 5, 1) := by decide +kernel
theorem dX12_counted_242 : decode cX12_counted 242 = .ok (.iload_n 3, 1) := by decide +kernel
theorem dX12_counted_243 : decode cX12_counted 243 = .ok (.iconst 1, 1) := by decide +kernel
theorem dX12_counted_244 : decode cX12_counted 244 = .ok (.iadd, 1) := by decide +kernel
theorem dX12_counted_245 : decode cX12_counted 245 = .ok (.imul, 1) := by decide +kernel
theorem dX12_counted_246 : decode cX12_counted 246 = .ok (.iload 7, 2) := by decide +kernel
theorem dX12_counted_248 : decode cX12_counted 248 = .ok (.iadd, 1) := by decide +kernel
theorem dX12_counted_249 : decode cX12_counted 249 = .ok (.laload, 1) := by decide +kernel
theorem dX12_counted_250 : decode cX12_counted 250 = .ok (.goto 4, 3) := by decide +kernel
theorem dX12_counted_253 : decode cX12_counted 253 = .ok (.lconst 0, 1) := by decide +kernel
theorem dX12_counted_254 : decode cX12_counted 254 = .ok (.ladd, 1) := by decide +kernel
theorem dX12_counted_255 : decode cX12_counted 255 = .ok (.lstore 5, 2) := by decide +kernel
theorem dX12_counted_257 : decode cX12_counted 257 = .ok (.iinc 7 1, 3) := by decide +kernel
theorem dX12_counted_260 : decode cX12_counted 260 = .ok (.goto (-61), 3) := by decide +kernel
theorem dX12_counted_263 : decode cX12_counted 263 = .ok (.aload_n 0, 1) := by decide +kernel
theorem dX12_counted_264 : decode cX12_counted 264 = .ok (.getfield 55, 3) := by decide +kernel
theorem dX12_counted_267 : decode cX12_counted 267 = .ok (.iconst 5, 1) := by decide +kernel
theorem dX12_counted_268 : decode cX12_counted 268 = .ok (.iload_n 3, 1) := by decide +kernel
theorem dX12_counted_269 : decode cX12_counted 269 = .ok (.imul, 1) := by decide +kernel
theorem dX12_counted_270 : decode cX12_counted 270 = .ok (.iload 4, 2) := by decide +kernel
theorem dX12_counted_272 : decode cX12_counted 272 = .ok (.iadd, 1) := by decide +kernel
theorem dX12_counted_273 : decode cX12_counted 273 = .ok (.aload_n 0, 1) := by decide +kernel
theorem dX12_counted_274 : decode cX12_counted 274 = .ok (.getfield 45, 3) := by decide +kernel
theorem dX12_counted_277 : decode cX12_counted 277 = .ok (.iconst 5, 1) := by decide +kernel
theorem dX12_counted_278 : decode cX12_counted 278 = .ok (.iload_n 3, 1) := by decide +kernel
theorem dX12_counted_279 : decode cX12_counted 279 = .ok (.imul, 1) := by decide +kernel
theorem dX12_counted_280 : decode cX12_counted 280 = .ok (.iload 4, 2) := by decide +kernel
theorem dX12_counted_282 : decode cX12_counted 282 = .ok (.iadd, 1) := by decide +kernel
theorem dX12_counted_283 : decode cX12_counted 283 = .ok (.baload, 1) := by decide +kernel
theorem dX12_counted_284 : decode cX12_counted 284 = .ok (.ifCond .eq 8, 3) := by decide +kernel
theorem dX12_counted_287 : decode cX12_counted 287 = .ok (.lload 5, 2) := by decide +kernel
theorem dX12_counted_289 : decode cX12_counted 289 = .ok (.goto 4, 3) := by decide +kernel
theorem dX12_counted_292 : decode cX12_counted 292 = .ok (.lconst 0, 1) := by decide +kernel
theorem dX12_counted_293 : decode cX12_counted 293 = .ok (.lastore, 1) := by decide +kernel
theorem dX12_counted_294 : decode cX12_counted 294 = .ok (.iinc 4 1, 3) := by decide +kernel
theorem dX12_counted_297 : decode cX12_counted 297 = .ok (.goto (-124), 3) := by decide +kernel
theorem dX12_counted_300 : decode cX12_counted 300 = .ok (.iinc 3 (-1), 3) := by decide +kernel
theorem dX12_counted_303 : decode cX12_counted 303 = .ok (.goto (-137), 3) := by decide +kernel
theorem dX12_counted_306 : decode cX12_counted 306 = .ok (.iconst 0, 1) := by decide +kernel
theorem dX12_counted_307 : decode cX12_counted 307 = .ok (.istore_n 3, 1) := by decide +kernel
theorem dX12_counted_308 : decode cX12_counted 308 = .ok (.iload_n 3, 1) := by decide +kernel
theorem dX12_counted_309 : decode cX12_counted 309 = .ok (.iconst 5, 1) := by decide +kernel
theorem dX12_counted_310 : decode cX12_counted 310 = .ok (.if_icmp .ge 18, 3) := by decide +kernel
theorem dX12_counted_313 : decode cX12_counted 313 = .ok (.lload_n 1, 1) := by decide +kernel
theorem dX12_counted_314 : decode cX12_counted 314 = .ok (.aload_n 0, 1) := by decide +kernel
theorem dX12_counted_315 : decode cX12_counted 315 = .ok (.getfield 55, 3) := by decide +kernel
theorem dX12_counted_318 : decode cX12_counted 318 = .ok (.iload_n 3, 1) := by decide +kernel
theorem dX12_counted_319 : decode cX12_counted 319 = .ok (.laload, 1) := by decide +kernel
theorem dX12_counted_320 : decode cX12_counted 320 = .ok (.ladd, 1) := by decide +kernel
theorem dX12_counted_321 : decode cX12_counted 321 = .ok (.lstore_n 1, 1) := by decide +kernel
theorem dX12_counted_322 : decode cX12_counted 322 = .ok (.iinc 3 1, 3) := by decide +kernel
theorem dX12_counted_325 : decode cX12_counted 325 = .ok (.goto (-17), 3) := by decide +kernel
theorem dX12_counted_328 : decode cX12_counted 328 = .ok (.lload_n 1, 1) := by decide +kernel
theorem dX12_counted_329 : decode cX12_counted 329 = .ok (.lreturn, 1) := by decide +kernel
theorem dX12_all_0 : decode cX12_all 0 = .ok (.aload_n 0, 1) := by decide +kernel
theorem dX12_all_1 : decode cX12_all 1 = .ok (.invokevirtual 186, 3) := by decide +kernel
theorem dX12_all_4 : decode cX12_all 4 = .ok (.aload_n 0, 1) := by decide +kernel
theorem dX12_all_5 : decode cX12_all 5 = .ok (.invokevirtual 189, 3) := by decide +kernel
theorem dX12_all_8 : decode cX12_all 8 = .ok (.lreturn, 1) := by decide +kernel
theorem dX12_through_0 : decode cX12_through 0 = .ok (.aload_n 0, 1) := by decide +kernel
theorem dX12_through_1 : decode cX12_through 1 = .ok (.getfield 51, 3) := by decide +kernel
theorem dX12_through_4 : decode cX12_through 4 = .ok (.iconst 5, 1) := by decide +kernel
theorem dX12_through_5 : decode cX12_through 5 = .ok (.iload_n 2, 1) := by decide +kernel
theorem dX12_through_6 : decode cX12_through 6 = .ok (.imul, 1) := by decide +kernel
theorem dX12_through_7 : decode cX12_through 7 = .ok (.iload_n 1, 1) := by decide +kernel
theorem dX12_through_8 : decode cX12_through 8 = .ok (.iadd, 1) := by decide +kernel
theorem dX12_through_9 : decode cX12_through 9 = .ok (.laload, 1) := by decide +kernel
theorem dX12_through_10 : decode cX12_through 10 = .ok (.aload_n 0, 1) := by decide +kernel
theorem dX12_through_11 : decode cX12_through 11 = .ok (.getfield 55, 3) := by decide +kernel
theorem dX12_through_14 : decode cX12_through 14 = .ok (.iconst 5, 1) := by decide +kernel
theorem dX12_through_15 : decode cX12_through 15 = .ok (.iload_n 2, 1) := by decide +kernel
theorem dX12_through_16 : decode cX12_through 16 = .ok (.imul, 1) := by decide +kernel
theorem dX12_through_17 : decode cX12_through 17 = .ok (.iload_n 1, 1) := by decide +kernel
theorem dX12_through_18 : decode cX12_through 18 = .ok (.iadd, 1) := by decide +kernel
theorem dX12_through_19 : decode cX12_through 19 = .ok (.laload, 1) := by decide +kernel
theorem dX12_through_20 : decode cX12_through 20 = .ok (.lmul, 1) := by decide +kernel
theorem dX12_through_21 : decode cX12_through 21 = .ok (.lreturn, 1) := by decide +kernel
theorem dX12_histories_0 : decode cX12_histories 0 = .ok (.aload_n 0, 1) := by decide +kernel
theorem dX12_histories_1 : decode cX12_histories 1 = .ok (.invokevirtual 193, 3) := by decide +kernel
theorem dX12_histories_4 : decode cX12_histories 4 = .ok (.lreturn, 1) := by decide +kernel
theorem dX12_at_0 : decode cX12_at 0 = .ok (.aload_n 0, 1) := by decide +kernel
theorem dX12_at_1 : decode cX12_at 1 = .ok (.iload_n 1, 1) := by decide +kernel
theorem dX12_at_2 : decode cX12_at 2 = .ok (.iload_n 2, 1) := by decide +kernel
theorem dX12_at_3 : decode cX12_at 3 = .ok (.invokevirtual 172, 3) := by decide +kernel
theorem dX12_at_6 : decode cX12_at 6 = .ok (.ifCond .ne 7, 3) := by decide +kernel
theorem dX12_at_9 : decode cX12_at 9 = .ok (.ldc2_w 196, 3) := by decide +kernel
theorem dX12_at_12 : decode cX12_at 12 = .ok (.lreturn, 1) := by decide +kernel
theorem dX12_at_13 : decode cX12_at 13 = .ok (.aload_n 0, 1) := by decide +kernel
theorem dX12_at_14 : decode cX12_at 14 = .ok (.invokevirtual 193, 3) := by decide +kernel
theorem dX12_at_17 : decode cX12_at 17 = .ok (.lstore_n 3, 1) := by decide +kernel
theorem dX12_at_18 : decode cX12_at 18 = .ok (.aload_n 0, 1) := by decide +kernel
theorem dX12_at_19 : decode cX12_at 19 = .ok (.iload_n 1, 1) := by decide +kernel
theorem dX12_at_20 : decode cX12_at 20 = .ok (.iload_n 2, 1) := by decide +kernel
theorem dX12_at_21 : decode cX12_at 21 = .ok (.invokevirtual 198, 3) := by decide +kernel
theorem dX12_at_24 : decode cX12_at 24 = .ok (.lreturn, 1) := by decide +kernel
theorem dX12_spread_0 : decode cX12_spread 0 = .ok (.iconst 0, 1) := by decide +kernel
theorem dX12_spread_1 : decode cX12_spread 1 = .ok (.istore_n 3, 1) := by decide +kernel
theorem dX12_spread_2 : decode cX12_spread 2 = .ok (.iload_n 3, 1) := by decide +kernel
theorem dX12_spread_3 : decode cX12_spread 3 = .ok (.bipush 60, 2) := by decide +kernel
theorem dX12_spread_5 : decode cX12_spread 5 = .ok (.if_icmp .ge 16, 3) := by decide +kernel
theorem dX12_spread_8 : decode cX12_spread 8 = .ok (.aload_n 0, 1) := by decide +kernel
theorem dX12_spread_9 : decode cX12_spread 9 = .ok (.getfield 58, 3) := by decide +kernel
theorem dX12_spread_12 : decode cX12_spread 12 = .ok (.iload_n 3, 1) := by decide +kernel
theorem dX12_spread_13 : decode cX12_spread 13 = .ok (.lconst 0, 1) := by decide +kernel
theorem dX12_spread_14 : decode cX12_spread 14 = .ok (.lastore, 1) := by decide +kernel
theorem dX12_spread_15 : decode cX12_spread 15 = .ok (.iinc 3 1, 3) := by decide +kernel
theorem dX12_spread_18 : decode cX12_spread 18 = .ok (.goto (-16), 3) := by decide +kernel
theorem dX12_spread_21 : decode cX12_spread 21 = .ok (.aload_n 0, 1) := by decide +kernel
theorem dX12_spread_22 : decode cX12_spread 22 = .ok (.getfield 58, 3) := by decide +kernel
theorem dX12_spread_25 : decode cX12_spread 25 = .ok (.iconst 5, 1) := by decide +kernel
theorem dX12_spread_26 : decode cX12_spread 26 = .ok (.iload_n 2, 1) := by decide +kernel
theorem dX12_spread_27 : decode cX12_spread 27 = .ok (.imul, 1) := by decide +kernel
theorem dX12_spread_28 : decode cX12_spread 28 = .ok (.iload_n 1, 1) := by decide +kernel
theorem dX12_spread_29 : decode cX12_spread 29 = .ok (.iadd, 1) := by decide +kernel
theorem dX12_spread_30 : decode cX12_spread 30 = .ok (.aload_n 0, 1) := by decide +kernel
theorem dX12_spread_31 : decode cX12_spread 31 = .ok (.getfield 45, 3) := by decide +kernel
theorem dX12_spread_34 : decode cX12_spread 34 = .ok (.iconst 5, 1) := by decide +kernel
theorem dX12_spread_35 : decode cX12_spread 35 = .ok (.iload_n 2, 1) := by decide +kernel
theorem dX12_spread_36 : decode cX12_spread 36 = .ok (.imul, 1) := by decide +kernel
theorem dX12_spread_37 : decode cX12_spread 37 = .ok (.iload_n 1, 1) := by decide +kernel
theorem dX12_spread_38 : decode cX12_spread 38 = .ok (.iadd, 1) := by decide +kernel
theorem dX12_spread_39 : decode cX12_spread 39 = .ok (.baload, 1) := by decide +kernel
theorem dX12_spread_40 : decode cX12_spread 40 = .ok (.ifCond .eq 7, 3) := by decide +kernel
theorem dX12_spread_43 : decode cX12_spread 43 = .ok (.lconst 1, 1) := by decide +kernel
theorem dX12_spread_44 : decode cX12_spread 44 = .ok (.goto 4, 3) := by decide +kernel
theorem dX12_spread_47 : decode cX12_spread 47 = .ok (.lconst 0, 1) := by decide +kernel
theorem dX12_spread_48 : decode cX12_spread 48 = .ok (.lastore, 1) := by decide +kernel
theorem dX12_spread_49 : decode cX12_spread 49 = .ok (.iload_n 2, 1) := by decide +kernel
theorem dX12_spread_50 : decode cX12_spread 50 = .ok (.iconst 1, 1) := by decide +kernel
theorem dX12_spread_51 : decode cX12_spread 51 = .ok (.iadd, 1) := by decide +kernel
theorem dX12_spread_52 : decode cX12_spread 52 = .ok (.istore_n 3, 1) := by decide +kernel
theorem dX12_spread_53 : decode cX12_spread 53 = .ok (.iload_n 3, 1) := by decide +kernel
theorem dX12_spread_54 : decode cX12_spread 54 = .ok (.aload_n 0, 1) := by decide +kernel
theorem dX12_spread_55 : decode cX12_spread 55 = .ok (.getfield 124, 3) := by decide +kernel
theorem dX12_spread_58 : decode cX12_spread 58 = .ok (.if_icmp .ge 117, 3) := by decide +kernel
theorem dX12_spread_61 : decode cX12_spread 61 = .ok (.iconst 0, 1) := by decide +kernel
theorem dX12_spread_62 : decode cX12_spread 62 = .ok (.istore 4, 2) := by decide +kernel
theorem dX12_spread_64 : decode cX12_spread 64 = .ok (.iload 4, 2) := by decide +kernel
theorem dX12_spread_66 : decode cX12_spread 66 = .ok (.iconst 5, 1) := by decide +kernel
theorem dX12_spread_67 : decode cX12_spread 67 = .ok (.if_icmp .ge 102, 3) := by decide +kernel
theorem dX12_spread_70 : decode cX12_spread 70 = .ok (.lconst 0, 1) := by decide +kernel
theorem dX12_spread_71 : decode cX12_spread 71 = .ok (.lstore 5, 2) := by decide +kernel
theorem dX12_spread_73 : decode cX12_spread 73 = .ok (.iconst 0, 1) := by decide +kernel
theorem dX12_spread_74 : decode cX12_spread 74 = .ok (.istore 7, 2) := by decide +kernel
theorem dX12_spread_76 : decode cX12_spread 76 = .ok (.iload 7, 2) := by decide +kernel
theorem dX12_spread_78 : decode cX12_spread 78 = .ok (.iconst 5, 1) := by decide +kernel
theorem dX12_spread_79 : decode cX12_spread 79 = .ok (.if_icmp .ge 53, 3) := by decide +kernel
theorem dX12_spread_82 : decode cX12_spread 82 = .ok (.lload 5, 2) := by decide +kernel
theorem dX12_spread_84 : decode cX12_spread 84 = .ok (.aload_n 0, 1) := by decide +kernel
theorem dX12_spread_85 : decode cX12_spread 85 = .ok (.getfield 48, 3) := by decide +kernel
theorem dX12_spread_88 : decode cX12_spread 88 = .ok (.bipush 25, 2) := by decide +kernel
theorem dX12_spread_90 : decode cX12_spread 90 = .ok (.iload_n 3, 1) := by decide +kernel
theorem dX12_spread_91 : decode cX12_spread 91 = .ok (.iconst 1, 1) := by decide +kernel
theorem dX12_spread_92 : decode cX12_spread 92 = .ok (.isub, 1) := by decide +kernel
theorem dX12_spread_93 : decode cX12_spread 93 = .ok (.imul, 1) := by decide +kernel
theorem dX12_spread_94 : decode cX12_spread 94 = .ok (.iconst 5, 1) := by decide +kernel
theorem dX12_spread_95 : decode cX12_spread 95 = .ok (.iload 7, 2) := by decide +kernel
theorem dX12_spread_97 : decode cX12_spread 97 = .ok (.imul, 1) := by decide +kernel
theorem dX12_spread_98 : decode cX12_spread 98 = .ok (.iadd, 1) := by decide +kernel
theorem dX12_spread_99 : decode cX12_spread 99 = .ok (.iload 4, 2) := by decide +kernel
theorem dX12_spread_101 : decode cX12_spread 101 = .ok (.iadd, 1) := by decide +kernel
theorem dX12_spread_102 : decode cX12_spread 102 = .ok (.baload, 1) := by decide +kernel
theorem dX12_spread_103 : decode cX12_spread 103 = .ok (.ifCond .eq 19, 3) := by decide +kernel
theorem dX12_spread_106 : decode cX12_spread 106 = .ok (.aload_n 0, 1) := by decide +kernel
theorem dX12_spread_107 : decode cX12_spread 107 = .ok (.getfield 58, 3) := by decide +kernel
theorem dX12_spread_110 : decode cX12_spread 110 = .ok (.iconst 5, 1) := by decide +kernel
theorem dX12_spread_111 : decode cX12_spread 111 = .ok (.iload_n 3, 1) := by decide +kernel
theorem dX12_spread_112 : decode cX12_spread 112 = .ok (.iconst 1, 1) := by decide +kernel
theorem dX12_spread_113 : decode cX12_spread 113 = .ok (.isub, 1) := by decide +kernel
theorem dX12_spread_114 : decode cX12_spread 114 = .ok (.imul, 1) := by decide +kernel
theorem dX12_spread_115 : decode cX12_spread 115 = .ok (.iload 7, 2) := by decide +kernel
theorem dX12_spread_117 : decode cX12_spread 117 = .ok (.iadd, 1) := by decide +kernel
theorem dX12_spread_118 : decode cX12_spread 118 = .ok (.laload, 1) := by decide +kernel
theorem dX12_spread_119 : decode cX12_spread 119 = .ok (.goto 4, 3) := by decide +kernel
theorem dX12_spread_122 : decode cX12_spread 122 = .ok (.lconst 0, 1) := by decide +kernel
theorem dX12_spread_123 : decode cX12_spread 123 = .ok (.ladd, 1) := by decide +kernel
theorem dX12_spread_124 : decode cX12_spread 124 = .ok (.lstore 5, 2) := by decide +kernel
theorem dX12_spread_126 : decode cX12_spread 126 = .ok (.iinc 7 1, 3) := by decide +kernel
theorem dX12_spread_129 : decode cX12_spread 129 = .ok (.goto (-53), 3) := by decide +kernel
theorem dX12_spread_132 : decode cX12_spread 132 = .ok (.aload_n 0, 1) := by decide +kernel
theorem dX12_spread_133 : decode cX12_spread 133 = .ok (.getfield 58, 3) := by decide +kernel
theorem dX12_spread_136 : decode cX12_spread 136 = .ok (.iconst 5, 1) := by decide +kernel
theorem dX12_spread_137 : decode cX12_spread 137 = .ok (.iload_n 3, 1) := by decide +kernel
theorem dX12_spread_138 : decode cX12_spread 138 = .ok (.imul, 1) := by decide +kernel
theorem dX12_spread_139 : decode cX12_spread 139 = .ok (.iload 4, 2) := by decide +kernel
theorem dX12_spread_141 : decode cX12_spread 141 = .ok (.iadd, 1) := by decide +kernel
theorem dX12_spread_142 : decode cX12_spread 142 = .ok (.aload_n 0, 1) := by decide +kernel
theorem dX12_spread_143 : decode cX12_spread 143 = .ok (.getfield 45, 3) := by decide +kernel
theorem dX12_spread_146 : decode cX12_spread 146 = .ok (.iconst 5, 1) := by decide +kernel
theorem dX12_spread_147 : decode cX12_spread 147 = .ok (.iload_n 3, 1) := by decide +kernel
theorem dX12_spread_148 : decode cX12_spread 148 = .ok (.imul, 1) := by decide +kernel
theorem dX12_spread_149 : decode cX12_spread 149 = .ok (.iload 4, 2) := by decide +kernel
theorem dX12_spread_151 : decode cX12_spread 151 = .ok (.iadd, 1) := by decide +kernel
theorem dX12_spread_152 : decode cX12_spread 152 = .ok (.baload, 1) := by decide +kernel
theorem dX12_spread_153 : decode cX12_spread 153 = .ok (.ifCond .eq 8, 3) := by decide +kernel
theorem dX12_spread_156 : decode cX12_spread 156 = .ok (.lload 5, 2) := by decide +kernel
theorem dX12_spread_158 : decode cX12_spread 158 = .ok (.goto 4, 3) := by decide +kernel
theorem dX12_spread_161 : decode cX12_spread 161 = .ok (.lconst 0, 1) := by decide +kernel
theorem dX12_spread_162 : decode cX12_spread 162 = .ok (.lastore, 1) := by decide +kernel
theorem dX12_spread_163 : decode cX12_spread 163 = .ok (.iinc 4 1, 3) := by decide +kernel
theorem dX12_spread_166 : decode cX12_spread 166 = .ok (.goto (-102), 3) := by decide +kernel
theorem dX12_spread_169 : decode cX12_spread 169 = .ok (.iinc 3 1, 3) := by decide +kernel
theorem dX12_spread_172 : decode cX12_spread 172 = .ok (.goto (-119), 3) := by decide +kernel
theorem dX12_spread_175 : decode cX12_spread 175 = .ok (.return_, 1) := by decide +kernel
theorem dX12_pairUp_0 : decode cX12_pairUp 0 = .ok (.iconst 0, 1) := by decide +kernel
theorem dX12_pairUp_1 : decode cX12_pairUp 1 = .ok (.istore_n 1, 1) := by decide +kernel
theorem dX12_pairUp_2 : decode cX12_pairUp 2 = .ok (.iload_n 1, 1) := by decide +kernel
theorem dX12_pairUp_3 : decode cX12_pairUp 3 = .ok (.iconst 5, 1) := by decide +kernel
theorem dX12_pairUp_4 : decode cX12_pairUp 4 = .ok (.aload_n 0, 1) := by decide +kernel
theorem dX12_pairUp_5 : decode cX12_pairUp 5 = .ok (.getfield 124, 3) := by decide +kernel
theorem dX12_pairUp_8 : decode cX12_pairUp 8 = .ok (.imul, 1) := by decide +kernel
theorem dX12_pairUp_9 : decode cX12_pairUp 9 = .ok (.if_icmp .ge 86, 3) := by decide +kernel
theorem dX12_pairUp_12 : decode cX12_pairUp 12 = .ok (.aload_n 0, 1) := by decide +kernel
theorem dX12_pairUp_13 : decode cX12_pairUp 13 = .ok (.iload_n 1, 1) := by decide +kernel
theorem dX12_pairUp_14 : decode cX12_pairUp 14 = .ok (.iconst 5, 1) := by decide +kernel
theorem dX12_pairUp_15 : decode cX12_pairUp 15 = .ok (.irem, 1) := by decide +kernel
theorem dX12_pairUp_16 : decode cX12_pairUp 16 = .ok (.iload_n 1, 1) := by decide +kernel
theorem dX12_pairUp_17 : decode cX12_pairUp 17 = .ok (.iconst 5, 1) := by decide +kernel
theorem dX12_pairUp_18 : decode cX12_pairUp 18 = .ok (.idiv, 1) := by decide +kernel
theorem dX12_pairUp_19 : decode cX12_pairUp 19 = .ok (.invokevirtual 202, 3) := by decide +kernel
theorem dX12_pairUp_22 : decode cX12_pairUp 22 = .ok (.iload_n 1, 1) := by decide +kernel
theorem dX12_pairUp_23 : decode cX12_pairUp 23 = .ok (.iload_n 1, 1) := by decide +kernel
theorem dX12_pairUp_24 : decode cX12_pairUp 24 = .ok (.iconst 5, 1) := by decide +kernel
theorem dX12_pairUp_25 : decode cX12_pairUp 25 = .ok (.irem, 1) := by decide +kernel
theorem dX12_pairUp_26 : decode cX12_pairUp 26 = .ok (.isub, 1) := by decide +kernel
theorem dX12_pairUp_27 : decode cX12_pairUp 27 = .ok (.istore_n 2, 1) := by decide +kernel
theorem dX12_pairUp_28 : decode cX12_pairUp 28 = .ok (.iload_n 2, 1) := by decide +kernel
theorem dX12_pairUp_29 : decode cX12_pairUp 29 = .ok (.iconst 5, 1) := by decide +kernel
theorem dX12_pairUp_30 : decode cX12_pairUp 30 = .ok (.aload_n 0, 1) := by decide +kernel
theorem dX12_pairUp_31 : decode cX12_pairUp 31 = .ok (.getfield 124, 3) := by decide +kernel
theorem dX12_pairUp_34 : decode cX12_pairUp 34 = .ok (.imul, 1) := by decide +kernel
theorem dX12_pairUp_35 : decode cX12_pairUp 35 = .ok (.if_icmp .ge 54, 3) := by decide +kernel
theorem dX12_pairUp_38 : decode cX12_pairUp 38 = .ok (.aload_n 0, 1) := by decide +kernel
theorem dX12_pairUp_39 : decode cX12_pairUp 39 = .ok (.getfield 51, 3) := by decide +kernel
theorem dX12_pairUp_42 : decode cX12_pairUp 42 = .ok (.iload_n 1, 1) := by decide +kernel
theorem dX12_pairUp_43 : decode cX12_pairUp 43 = .ok (.laload, 1) := by decide +kernel
theorem dX12_pairUp_44 : decode cX12_pairUp 44 = .ok (.aload_n 0, 1) := by decide +kernel
theorem dX12_pairUp_45 : decode cX12_pairUp 45 = .ok (.getfield 58, 3) := by decide +kernel
theorem dX12_pairUp_48 : decode cX12_pairUp 48 = .ok (.iload_n 2, 1) := by decide +kernel
theorem dX12_pairUp_49 : decode cX12_pairUp 49 = .ok (.laload, 1) := by decide +kernel
theorem dX12_pairUp_50 : decode cX12_pairUp 50 = .ok (.lmul, 1) := by decide +kernel
theorem dX12_pairUp_51 : decode cX12_pairUp 51 = .ok (.aload_n 0, 1) := by decide +kernel
theorem dX12_pairUp_52 : decode cX12_pairUp 52 = .ok (.getfield 55, 3) := by decide +kernel
theorem dX12_pairUp_55 : decode cX12_pairUp 55 = .ok (.iload_n 2, 1) := by decide +kernel
theorem dX12_pairUp_56 : decode cX12_pairUp 56 = .ok (.laload, 1) := by decide +kernel
theorem dX12_pairUp_57 : decode cX12_pairUp 57 = .ok (.lmul, 1) := by decide +kernel
theorem dX12_pairUp_58 : decode cX12_pairUp 58 = .ok (.lstore_n 3, 1) := by decide +kernel
theorem dX12_pairUp_59 : decode cX12_pairUp 59 = .ok (.aload_n 0, 1) := by decide +kernel
theorem dX12_pairUp_60 : decode cX12_pairUp 60 = .ok (.getfield 61, 3) := by decide +kernel
theorem dX12_pairUp_63 : decode cX12_pairUp 63 = .ok (.bipush 60, 2) := by decide +kernel
theorem dX12_pairUp_65 : decode cX12_pairUp 65 = .ok (.iload_n 1, 1) := by decide +kernel
theorem dX12_pairUp_66 : decode cX12_pairUp 66 = .ok (.imul, 1) := by decide +kernel
theorem dX12_pairUp_67 : decode cX12_pairUp 67 = .ok (.iload_n 2, 1) := by decide +kernel
theorem dX12_pairUp_68 : decode cX12_pairUp 68 = .ok (.iadd, 1) := by decide +kernel
theorem dX12_pairUp_69 : decode cX12_pairUp 69 = .ok (.lload_n 3, 1) := by decide +kernel
theorem dX12_pairUp_70 : decode cX12_pairUp 70 = .ok (.lastore, 1) := by decide +kernel
theorem dX12_pairUp_71 : decode cX12_pairUp 71 = .ok (.aload_n 0, 1) := by decide +kernel
theorem dX12_pairUp_72 : decode cX12_pairUp 72 = .ok (.getfield 61, 3) := by decide +kernel
theorem dX12_pairUp_75 : decode cX12_pairUp 75 = .ok (.bipush 60, 2) := by decide +kernel
theorem dX12_pairUp_77 : decode cX12_pairUp 77 = .ok (.iload_n 2, 1) := by decide +kernel
theorem dX12_pairUp_78 : decode cX12_pairUp 78 = .ok (.imul, 1) := by decide +kernel
theorem dX12_pairUp_79 : decode cX12_pairUp 79 = .ok (.iload_n 1, 1) := by decide +kernel
theorem dX12_pairUp_80 : decode cX12_pairUp 80 = .ok (.iadd, 1) := by decide +kernel
theorem dX12_pairUp_81 : decode cX12_pairUp 81 = .ok (.lload_n 3, 1) := by decide +kernel
theorem dX12_pairUp_82 : decode cX12_pairUp 82 = .ok (.lastore, 1) := by decide +kernel
theorem dX12_pairUp_83 : decode cX12_pairUp 83 = .ok (.iinc 2 1, 3) := by decide +kernel
theorem dX12_pairUp_86 : decode cX12_pairUp 86 = .ok (.goto (-58), 3) := by decide +kernel
theorem dX12_pairUp_89 : decode cX12_pairUp 89 = .ok (.iinc 1 1, 3) := by decide +kernel
theorem dX12_pairUp_92 : decode cX12_pairUp 92 = .ok (.goto (-90), 3) := by decide +kernel
theorem dX12_pairUp_95 : decode cX12_pairUp 95 = .ok (.return_, 1) := by decide +kernel
theorem dX12_both_0 : decode cX12_both 0 = .ok (.aload_n 0, 1) := by decide +kernel
theorem dX12_both_1 : decode cX12_both 1 = .ok (.iload_n 1, 1) := by decide +kernel
theorem dX12_both_2 : decode cX12_both 2 = .ok (.iload_n 2, 1) := by decide +kernel
theorem dX12_both_3 : decode cX12_both 3 = .ok (.invokevirtual 172, 3) := by decide +kernel
theorem dX12_both_6 : decode cX12_both 6 = .ok (.ifCond .eq 13, 3) := by decide +kernel
theorem dX12_both_9 : decode cX12_both 9 = .ok (.aload_n 0, 1) := by decide +kernel
theorem dX12_both_10 : decode cX12_both 10 = .ok (.iload_n 3, 1) := by decide +kernel
theorem dX12_both_11 : decode cX12_both 11 = .ok (.iload 4, 2) := by decide +kernel
theorem dX12_both_13 : decode cX12_both 13 = .ok (.invokevirtual 172, 3) := by decide +kernel
theorem dX12_both_16 : decode cX12_both 16 = .ok (.ifCond .ne 7, 3) := by decide +kernel
theorem dX12_both_19 : decode cX12_both 19 = .ok (.ldc2_w 196, 3) := by decide +kernel
theorem dX12_both_22 : decode cX12_both 22 = .ok (.lreturn, 1) := by decide +kernel
theorem dX12_both_23 : decode cX12_both 23 = .ok (.aload_n 0, 1) := by decide +kernel
theorem dX12_both_24 : decode cX12_both 24 = .ok (.invokevirtual 193, 3) := by decide +kernel
theorem dX12_both_27 : decode cX12_both 27 = .ok (.lstore 5, 2) := by decide +kernel
theorem dX12_both_29 : decode cX12_both 29 = .ok (.iload_n 2, 1) := by decide +kernel
theorem dX12_both_30 : decode cX12_both 30 = .ok (.iload 4, 2) := by decide +kernel
theorem dX12_both_32 : decode cX12_both 32 = .ok (.if_icmp .gt 7, 3) := by decide +kernel
theorem dX12_both_35 : decode cX12_both 35 = .ok (.iconst 1, 1) := by decide +kernel
theorem dX12_both_36 : decode cX12_both 36 = .ok (.goto 4, 3) := by decide +kernel
theorem dX12_both_39 : decode cX12_both 39 = .ok (.iconst 0, 1) := by decide +kernel
theorem dX12_both_40 : decode cX12_both 40 = .ok (.istore 7, 2) := by decide +kernel
theorem dX12_both_42 : decode cX12_both 42 = .ok (.iload 7, 2) := by decide +kernel
theorem dX12_both_44 : decode cX12_both 44 = .ok (.ifCond .eq 11, 3) := by decide +kernel
theorem dX12_both_47 : decode cX12_both 47 = .ok (.iconst 5, 1) := by decide +kernel
theorem dX12_both_48 : decode cX12_both 48 = .ok (.iload_n 2, 1) := by decide +kernel
theorem dX12_both_49 : decode cX12_both 49 = .ok (.imul, 1) := by decide +kernel
theorem dX12_both_50 : decode cX12_both 50 = .ok (.iload_n 1, 1) := by decide +kernel
theorem dX12_both_51 : decode cX12_both 51 = .ok (.iadd, 1) := by decide +kernel
theorem dX12_both_52 : decode cX12_both 52 = .ok (.goto 9, 3) := by decide +kernel
theorem dX12_both_55 : decode cX12_both 55 = .ok (.iconst 5, 1) := by decide +kernel
theorem dX12_both_56 : decode cX12_both 56 = .ok (.iload 4, 2) := by decide +kernel
theorem dX12_both_58 : decode cX12_both 58 = .ok (.imul, 1) := by decide +kernel
theorem dX12_both_59 : decode cX12_both 59 = .ok (.iload_n 3, 1) := by decide +kernel
theorem dX12_both_60 : decode cX12_both 60 = .ok (.iadd, 1) := by decide +kernel
theorem dX12_both_61 : decode cX12_both 61 = .ok (.istore 8, 2) := by decide +kernel
theorem dX12_both_63 : decode cX12_both 63 = .ok (.iload 7, 2) := by decide +kernel
theorem dX12_both_65 : decode cX12_both 65 = .ok (.ifCond .eq 12, 3) := by decide +kernel
theorem dX12_both_68 : decode cX12_both 68 = .ok (.iconst 5, 1) := by decide +kernel
theorem dX12_both_69 : decode cX12_both 69 = .ok (.iload 4, 2) := by decide +kernel
theorem dX12_both_71 : decode cX12_both 71 = .ok (.imul, 1) := by decide +kernel
theorem dX12_both_72 : decode cX12_both 72 = .ok (.iload_n 3, 1) := by decide +kernel
theorem dX12_both_73 : decode cX12_both 73 = .ok (.iadd, 1) := by decide +kernel
theorem dX12_both_74 : decode cX12_both 74 = .ok (.goto 8, 3) := by decide +kernel
theorem dX12_both_77 : decode cX12_both 77 = .ok (.iconst 5, 1) := by decide +kernel
theorem dX12_both_78 : decode cX12_both 78 = .ok (.iload_n 2, 1) := by decide +kernel
theorem dX12_both_79 : decode cX12_both 79 = .ok (.imul, 1) := by decide +kernel
theorem dX12_both_80 : decode cX12_both 80 = .ok (.iload_n 1, 1) := by decide +kernel
theorem dX12_both_81 : decode cX12_both 81 = .ok (.iadd, 1) := by decide +kernel
theorem dX12_both_82 : decode cX12_both 82 = .ok (.istore 9, 2) := by decide +kernel
theorem dX12_both_84 : decode cX12_both 84 = .ok (.aload_n 0, 1) := by decide +kernel
theorem dX12_both_85 : decode cX12_both 85 = .ok (.iload 8, 2) := by decide +kernel
theorem dX12_both_87 : decode cX12_both 87 = .ok (.iconst 5, 1) := by decide +kernel
theorem dX12_both_88 : decode cX12_both 88 = .ok (.irem, 1) := by decide +kernel
theorem dX12_both_89 : decode cX12_both 89 = .ok (.iload 8, 2) := by decide +kernel
theorem dX12_both_91 : decode cX12_both 91 = .ok (.iconst 5, 1) := by decide +kernel
theorem dX12_both_92 : decode cX12_both 92 = .ok (.idiv, 1) := by decide +kernel
theorem dX12_both_93 : decode cX12_both 93 = .ok (.invokevirtual 202, 3) := by decide +kernel
theorem dX12_both_96 : decode cX12_both 96 = .ok (.aload_n 0, 1) := by decide +kernel
theorem dX12_both_97 : decode cX12_both 97 = .ok (.getfield 51, 3) := by decide +kernel
theorem dX12_both_100 : decode cX12_both 100 = .ok (.iload 8, 2) := by decide +kernel
theorem dX12_both_102 : decode cX12_both 102 = .ok (.laload, 1) := by decide +kernel
theorem dX12_both_103 : decode cX12_both 103 = .ok (.aload_n 0, 1) := by decide +kernel
theorem dX12_both_104 : decode cX12_both 104 = .ok (.getfield 58, 3) := by decide +kernel
theorem dX12_both_107 : decode cX12_both 107 = .ok (.iload 9, 2) := by decide +kernel
theorem dX12_both_109 : decode cX12_both 109 = .ok (.laload, 1) := by decide +kernel
theorem dX12_both_110 : decode cX12_both 110 = .ok (.lmul, 1) := by decide +kernel
theorem dX12_both_111 : decode cX12_both 111 = .ok (.aload_n 0, 1) := by decide +kernel
theorem dX12_both_112 : decode cX12_both 112 = .ok (.getfield 55, 3) := by decide +kernel
theorem dX12_both_115 : decode cX12_both 115 = .ok (.iload 9, 2) := by decide +kernel
theorem dX12_both_117 : decode cX12_both 117 = .ok (.laload, 1) := by decide +kernel
theorem dX12_both_118 : decode cX12_both 118 = .ok (.lmul, 1) := by decide +kernel
theorem dX12_both_119 : decode cX12_both 119 = .ok (.lreturn, 1) := by decide +kernel
theorem dX12_history_0 : decode cX12_history 0 = .ok (.iload_n 1, 1) := by decide +kernel
theorem dX12_history_1 : decode cX12_history 1 = .ok (.iconst 0, 1) := by decide +kernel
theorem dX12_history_2 : decode cX12_history 2 = .ok (.sipush 9999, 3) := by decide +kernel
theorem dX12_history_5 : decode cX12_history 5 = .ok (.invokestatic 148, 3) := by decide +kernel
theorem dX12_history_8 : decode cX12_history 8 = .ok (.ifCond .eq 11, 3) := by decide +kernel
theorem dX12_history_11 : decode cX12_history 11 = .ok (.aload_n 0, 1) := by decide +kernel
theorem dX12_history_12 : decode cX12_history 12 = .ok (.iload_n 2, 1) := by decide +kernel
theorem dX12_history_13 : decode cX12_history 13 = .ok (.invokevirtual 156, 3) := by decide +kernel
theorem dX12_history_16 : decode cX12_history 16 = .ok (.ifCond .ne 6, 3) := by decide +kernel
theorem dX12_history_19 : decode cX12_history 19 = .ok (.bipush (-2), 2) := by decide +kernel
theorem dX12_history_21 : decode cX12_history 21 = .ok (.ireturn, 1) := by decide +kernel
theorem dX12_history_22 : decode cX12_history 22 = .ok (.iload_n 1, 1) := by decide +kernel
theorem dX12_history_23 : decode cX12_history 23 = .ok (.i2l, 1) := by decide +kernel
theorem dX12_history_24 : decode cX12_history 24 = .ok (.aload_n 0, 1) := by decide +kernel
theorem dX12_history_25 : decode cX12_history 25 = .ok (.invokevirtual 193, 3) := by decide +kernel
theorem dX12_history_28 : decode cX12_history 28 = .ok (.lcmp, 1) := by decide +kernel
theorem dX12_history_29 : decode cX12_history 29 = .ok (.ifCond .lt 5, 3) := by decide +kernel
theorem dX12_history_32 : decode cX12_history 32 = .ok (.iconst (-1), 1) := by decide +kernel
theorem dX12_history_33 : decode cX12_history 33 = .ok (.ireturn, 1) := by decide +kernel
theorem dX12_history_34 : decode cX12_history 34 = .ok (.iload_n 1, 1) := by decide +kernel
theorem dX12_history_35 : decode cX12_history 35 = .ok (.i2l, 1) := by decide +kernel
theorem dX12_history_36 : decode cX12_history 36 = .ok (.lstore_n 3, 1) := by decide +kernel
theorem dX12_history_37 : decode cX12_history 37 = .ok (.iconst 0, 1) := by decide +kernel
theorem dX12_history_38 : decode cX12_history 38 = .ok (.istore 5, 2) := by decide +kernel
theorem dX12_history_40 : decode cX12_history 40 = .ok (.iconst 0, 1) := by decide +kernel
theorem dX12_history_41 : decode cX12_history 41 = .ok (.istore 6, 2) := by decide +kernel
theorem dX12_history_43 : decode cX12_history 43 = .ok (.iload 6, 2) := by decide +kernel
theorem dX12_history_45 : decode cX12_history 45 = .ok (.iload_n 2, 1) := by decide +kernel
theorem dX12_history_46 : decode cX12_history 46 = .ok (.if_icmp .gt 114, 3) := by decide +kernel
theorem dX12_history_49 : decode cX12_history 49 = .ok (.iload 5, 2) := by decide +kernel
theorem dX12_history_51 : decode cX12_history 51 = .ok (.istore 7, 2) := by decide +kernel
theorem dX12_history_53 : decode cX12_history 53 = .ok (.iconst 0, 1) := by decide +kernel
theorem dX12_history_54 : decode cX12_history 54 = .ok (.istore 5, 2) := by decide +kernel
theorem dX12_history_56 : decode cX12_history 56 = .ok (.iload 6, 2) := by decide +kernel
theorem dX12_history_58 : decode cX12_history 58 = .ok (.ifCond .le 26, 3) := by decide +kernel
theorem dX12_history_61 : decode cX12_history 61 = .ok (.aload_n 0, 1) := by decide +kernel
theorem dX12_history_62 : decode cX12_history 62 = .ok (.getfield 48, 3) := by decide +kernel
theorem dX12_history_65 : decode cX12_history 65 = .ok (.bipush 25, 2) := by decide +kernel
theorem dX12_history_67 : decode cX12_history 67 = .ok (.iload 6, 2) := by decide +kernel
theorem dX12_history_69 : decode cX12_history 69 = .ok (.iconst 1, 1) := by decide +kernel
theorem dX12_history_70 : decode cX12_history 70 = .ok (.isub, 1) := by decide +kernel
theorem dX12_history_71 : decode cX12_history 71 = .ok (.imul, 1) := by decide +kernel
theorem dX12_history_72 : decode cX12_history 72 = .ok (.iconst 5, 1) := by decide +kernel
theorem dX12_history_73 : decode cX12_history 73 = .ok (.iload 7, 2) := by decide +kernel
theorem dX12_history_75 : decode cX12_history 75 = .ok (.imul, 1) := by decide +kernel
theorem dX12_history_76 : decode cX12_history 76 = .ok (.iadd, 1) := by decide +kernel
theorem dX12_history_77 : decode cX12_history 77 = .ok (.iload 5, 2) := by decide +kernel
theorem dX12_history_79 : decode cX12_history 79 = .ok (.iadd, 1) := by decide +kernel
theorem dX12_history_80 : decode cX12_history 80 = .ok (.baload, 1) := by decide +kernel
theorem dX12_history_81 : decode cX12_history 81 = .ok (.ifCond .eq 20, 3) := by decide +kernel
theorem dX12_history_84 : decode cX12_history 84 = .ok (.lload_n 3, 1) := by decide +kernel
theorem dX12_history_85 : decode cX12_history 85 = .ok (.aload_n 0, 1) := by decide +kernel
theorem dX12_history_86 : decode cX12_history 86 = .ok (.getfield 55, 3) := by decide +kernel
theorem dX12_history_89 : decode cX12_history 89 = .ok (.iconst 5, 1) := by decide +kernel
theorem dX12_history_90 : decode cX12_history 90 = .ok (.iload 6, 2) := by decide +kernel
theorem dX12_history_92 : decode cX12_history 92 = .ok (.imul, 1) := by decide +kernel
theorem dX12_history_93 : decode cX12_history 93 = .ok (.iload 5, 2) := by decide +kernel
theorem dX12_history_95 : decode cX12_history 95 = .ok (.iadd, 1) := by decide +kernel
theorem dX12_history_96 : decode cX12_history 96 = .ok (.laload, 1) := by decide +kernel
theorem dX12_history_97 : decode cX12_history 97 = .ok (.lcmp, 1) := by decide +kernel
theorem dX12_history_98 : decode cX12_history 98 = .ok (.ifCond .lt 56, 3) := by decide +kernel
theorem dX12_history_101 : decode cX12_history 101 = .ok (.lload_n 3, 1) := by decide +kernel
theorem dX12_history_102 : decode cX12_history 102 = .ok (.iload 6, 2) := by decide +kernel
theorem dX12_history_104 : decode cX12_history 104 = .ok (.ifCond .le 30, 3) := by decide +kernel
theorem dX12_history_107 : decode cX12_history 107 = .ok (.aload_n 0, 1) := by decide +kernel
theorem dX12_history_108 : decode cX12_history 108 = .ok (.getfield 48, 3) := by decide +kernel
theorem dX12_history_111 : decode cX12_history 111 = .ok (.bipush 25, 2) := by decide +kernel
theorem dX12_history_113 : decode cX12_history 113 = .ok (.iload 6, 2) := by decide +kernel
theorem dX12_history_115 : decode cX12_history 115 = .ok (.iconst 1, 1) := by decide +kernel
theorem dX12_history_116 : decode cX12_history 116 = .ok (.isub, 1) := by decide +kernel
theorem dX12_history_117 : decode cX12_history 117 = .ok (.imul, 1) := by decide +kernel
theorem dX12_history_118 : decode cX12_history 118 = .ok (.iconst 5, 1) := by decide +kernel
theorem dX12_history_119 : decode cX12_history 119 = .ok (.iload 7, 2) := by decide +kernel
theorem dX12_history_121 : decode cX12_history 121 = .ok (.imul, 1) := by decide +kernel
theorem dX12_history_122 : decode cX12_history 122 = .ok (.iadd, 1) := by decide +kernel
theorem dX12_history_123 : decode cX12_history 123 = .ok (.iload 5, 2) := by decide +kernel
theorem dX12_history_125 : decode cX12_history 125 = .ok (.iadd, 1) := by decide +kernel
theorem dX12_history_126 : decode cX12_history 126 = .ok (.baload, 1) := by decide +kernel
theorem dX12_history_127 : decode cX12_history 127 = .ok (.ifCond .ne 7, 3) := by decide +kernel
theorem dX12_history_130 : decode cX12_history 130 = .ok (.lconst 0, 1) := by decide +kernel
theorem dX12_history_131 : decode cX12_history 131 = .ok (.goto 15, 3) := by decide +kernel
theorem dX12_history_134 : decode cX12_history 134 = .ok (.aload_n 0, 1) := by decide +kernel
theorem dX12_history_135 : decode cX12_history 135 = .ok (.getfield 55, 3) := by decide +kernel
theorem dX12_history_138 : decode cX12_history 138 = .ok (.iconst 5, 1) := by decide +kernel
theorem dX12_history_139 : decode cX12_history 139 = .ok (.iload 6, 2) := by decide +kernel
theorem dX12_history_141 : decode cX12_history 141 = .ok (.imul, 1) := by decide +kernel
theorem dX12_history_142 : decode cX12_history 142 = .ok (.iload 5, 2) := by decide +kernel
theorem dX12_history_144 : decode cX12_history 144 = .ok (.iadd, 1) := by decide +kernel
theorem dX12_history_145 : decode cX12_history 145 = .ok (.laload, 1) := by decide +kernel
theorem dX12_history_146 : decode cX12_history 146 = .ok (.lsub, 1) := by decide +kernel
theorem dX12_history_147 : decode cX12_history 147 = .ok (.lstore_n 3, 1) := by decide +kernel
theorem dX12_history_148 : decode cX12_history 148 = .ok (.iinc 5 1, 3) := by decide +kernel
theorem dX12_history_151 : decode cX12_history 151 = .ok (.goto (-95), 3) := by decide +kernel
theorem dX12_history_154 : decode cX12_history 154 = .ok (.iinc 6 1, 3) := by decide +kernel
theorem dX12_history_157 : decode cX12_history 157 = .ok (.goto (-114), 3) := by decide +kernel
theorem dX12_history_160 : decode cX12_history 160 = .ok (.iload 5, 2) := by decide +kernel
theorem dX12_history_162 : decode cX12_history 162 = .ok (.ireturn, 1) := by decide +kernel
theorem dX12_feed_0 : decode cX12_feed 0 = .ok (.iload_n 1, 1) := by decide +kernel
theorem dX12_feed_1 : decode cX12_feed 1 = .ok (.iconst 1, 1) := by decide +kernel
theorem dX12_feed_2 : decode cX12_feed 2 = .ok (.bipush 8, 2) := by decide +kernel
theorem dX12_feed_4 : decode cX12_feed 4 = .ok (.invokestatic 148, 3) := by decide +kernel
theorem dX12_feed_7 : decode cX12_feed 7 = .ok (.ifCond .ne 6, 3) := by decide +kernel
theorem dX12_feed_10 : decode cX12_feed 10 = .ok (.bipush (-2), 2) := by decide +kernel
theorem dX12_feed_12 : decode cX12_feed 12 = .ok (.ireturn, 1) := by decide +kernel
theorem dX12_feed_13 : decode cX12_feed 13 = .ok (.aload_n 0, 1) := by decide +kernel
theorem dX12_feed_14 : decode cX12_feed 14 = .ok (.getfield 206, 3) := by decide +kernel
theorem dX12_feed_17 : decode cX12_feed 17 = .ok (.iload_n 1, 1) := by decide +kernel
theorem dX12_feed_18 : decode cX12_feed 18 = .ok (.iadd, 1) := by decide +kernel
theorem dX12_feed_19 : decode cX12_feed 19 = .ok (.sipush 160, 3) := by decide +kernel
theorem dX12_feed_22 : decode cX12_feed 22 = .ok (.if_icmp .le 6, 3) := by decide +kernel
theorem dX12_feed_25 : decode cX12_feed 25 = .ok (.bipush (-4), 2) := by decide +kernel
theorem dX12_feed_27 : decode cX12_feed 27 = .ok (.ireturn, 1) := by decide +kernel
theorem dX12_feed_28 : decode cX12_feed 28 = .ok (.iconst 0, 1) := by decide +kernel
theorem dX12_feed_29 : decode cX12_feed 29 = .ok (.istore 4, 2) := by decide +kernel
theorem dX12_feed_31 : decode cX12_feed 31 = .ok (.iload 4, 2) := by decide +kernel
theorem dX12_feed_33 : decode cX12_feed 33 = .ok (.iload_n 1, 1) := by decide +kernel
theorem dX12_feed_34 : decode cX12_feed 34 = .ok (.if_icmp .ge 40, 3) := by decide +kernel
theorem dX12_feed_37 : decode cX12_feed 37 = .ok (.aload_n 0, 1) := by decide +kernel
theorem dX12_feed_38 : decode cX12_feed 38 = .ok (.getfield 70, 3) := by decide +kernel
theorem dX12_feed_41 : decode cX12_feed 41 = .ok (.aload_n 0, 1) := by decide +kernel
theorem dX12_feed_42 : decode cX12_feed 42 = .ok (.getfield 206, 3) := by decide +kernel
theorem dX12_feed_45 : decode cX12_feed 45 = .ok (.lload_n 2, 1) := by decide +kernel
theorem dX12_feed_46 : decode cX12_feed 46 = .ok (.bipush 8, 2) := by decide +kernel
theorem dX12_feed_48 : decode cX12_feed 48 = .ok (.iload 4, 2) := by decide +kernel
theorem dX12_feed_50 : decode cX12_feed 50 = .ok (.imul, 1) := by decide +kernel
theorem dX12_feed_51 : decode cX12_feed 51 = .ok (.lshr, 1) := by decide +kernel
theorem dX12_feed_52 : decode cX12_feed 52 = .ok (.ldc2_w 146, 3) := by decide +kernel
theorem dX12_feed_55 : decode cX12_feed 55 = .ok (.land, 1) := by decide +kernel
theorem dX12_feed_56 : decode cX12_feed 56 = .ok (.l2i, 1) := by decide +kernel
theorem dX12_feed_57 : decode cX12_feed 57 = .ok (.iastore, 1) := by decide +kernel
theorem dX12_feed_58 : decode cX12_feed 58 = .ok (.aload_n 0, 1) := by decide +kernel
theorem dX12_feed_59 : decode cX12_feed 59 = .ok (.dup, 1) := by decide +kernel
theorem dX12_feed_60 : decode cX12_feed 60 = .ok (.getfield 206, 3) := by decide +kernel
theorem dX12_feed_63 : decode cX12_feed 63 = .ok (.iconst 1, 1) := by decide +kernel
theorem dX12_feed_64 : decode cX12_feed 64 = .ok (.iadd, 1) := by decide +kernel
theorem dX12_feed_65 : decode cX12_feed 65 = .ok (.putfield 206, 3) := by decide +kernel
theorem dX12_feed_68 : decode cX12_feed 68 = .ok (.iinc 4 1, 3) := by decide +kernel
theorem dX12_feed_71 : decode cX12_feed 71 = .ok (.goto (-40), 3) := by decide +kernel
theorem dX12_feed_74 : decode cX12_feed 74 = .ok (.aload_n 0, 1) := by decide +kernel
theorem dX12_feed_75 : decode cX12_feed 75 = .ok (.getfield 206, 3) := by decide +kernel
theorem dX12_feed_78 : decode cX12_feed 78 = .ok (.ireturn, 1) := by decide +kernel
theorem dX12_byteAt_0 : decode cX12_byteAt 0 = .ok (.iload_n 1, 1) := by decide +kernel
theorem dX12_byteAt_1 : decode cX12_byteAt 1 = .ok (.aload_n 0, 1) := by decide +kernel
theorem dX12_byteAt_2 : decode cX12_byteAt 2 = .ok (.getfield 209, 3) := by decide +kernel
theorem dX12_byteAt_5 : decode cX12_byteAt 5 = .ok (.if_icmp .ge 17, 3) := by decide +kernel
theorem dX12_byteAt_8 : decode cX12_byteAt 8 = .ok (.aload_n 0, 1) := by decide +kernel
theorem dX12_byteAt_9 : decode cX12_byteAt 9 = .ok (.getfield 64, 3) := by decide +kernel
theorem dX12_byteAt_12 : decode cX12_byteAt 12 = .ok (.aload_n 0, 1) := by decide +kernel
theorem dX12_byteAt_13 : decode cX12_byteAt 13 = .ok (.getfield 212, 3) := by decide +kernel
theorem dX12_byteAt_16 : decode cX12_byteAt 16 = .ok (.iload_n 1, 1) := by decide +kernel
theorem dX12_byteAt_17 : decode cX12_byteAt 17 = .ok (.iadd, 1) := by decide +kernel
theorem dX12_byteAt_18 : decode cX12_byteAt 18 = .ok (.iaload, 1) := by decide +kernel
theorem dX12_byteAt_19 : decode cX12_byteAt 19 = .ok (.goto 4, 3) := by decide +kernel
theorem dX12_byteAt_22 : decode cX12_byteAt 22 = .ok (.iconst (-1), 1) := by decide +kernel
theorem dX12_byteAt_23 : decode cX12_byteAt 23 = .ok (.ireturn, 1) := by decide +kernel
theorem dX12_next_0 : decode cX12_next 0 = .ok (.aload_n 0, 1) := by decide +kernel
theorem dX12_next_1 : decode cX12_next 1 = .ok (.aload_n 0, 1) := by decide +kernel
theorem dX12_next_2 : decode cX12_next 2 = .ok (.getfield 215, 3) := by decide +kernel
theorem dX12_next_5 : decode cX12_next 5 = .ok (.invokevirtual 218, 3) := by decide +kernel
theorem dX12_next_8 : decode cX12_next 8 = .ok (.bipush 32, 2) := by decide +kernel
theorem dX12_next_10 : decode cX12_next 10 = .ok (.if_icmp .eq 16, 3) := by decide +kernel
theorem dX12_next_13 : decode cX12_next 13 = .ok (.aload_n 0, 1) := by decide +kernel
theorem dX12_next_14 : decode cX12_next 14 = .ok (.aload_n 0, 1) := by decide +kernel
theorem dX12_next_15 : decode cX12_next 15 = .ok (.getfield 215, 3) := by decide +kernel
theorem dX12_next_18 : decode cX12_next 18 = .ok (.invokevirtual 218, 3) := by decide +kernel
theorem dX12_next_21 : decode cX12_next 21 = .ok (.bipush 10, 2) := by decide +kernel
theorem dX12_next_23 : decode cX12_next 23 = .ok (.if_icmp .ne 16, 3) := by decide +kernel
theorem dX12_next_26 : decode cX12_next 26 = .ok (.aload_n 0, 1) := by decide +kernel
theorem dX12_next_27 : decode cX12_next 27 = .ok (.dup, 1) := by decide +kernel
theorem dX12_next_28 : decode cX12_next 28 = .ok (.getfield 215, 3) := by decide +kernel
theorem dX12_next_31 : decode cX12_next 31 = .ok (.iconst 1, 1) := by decide +kernel
theorem dX12_next_32 : decode cX12_next 32 = .ok (.iadd, 1) := by decide +kernel
theorem dX12_next_33 : decode cX12_next 33 = .ok (.putfield 215, 3) := by decide +kernel
theorem dX12_next_36 : decode cX12_next 36 = .ok (.goto (-36), 3) := by decide +kernel
theorem dX12_next_39 : decode cX12_next 39 = .ok (.aload_n 0, 1) := by decide +kernel
theorem dX12_next_40 : decode cX12_next 40 = .ok (.aload_n 0, 1) := by decide +kernel
theorem dX12_next_41 : decode cX12_next 41 = .ok (.getfield 215, 3) := by decide +kernel
theorem dX12_next_44 : decode cX12_next 44 = .ok (.putfield 221, 3) := by decide +kernel
theorem dX12_next_47 : decode cX12_next 47 = .ok (.aload_n 0, 1) := by decide +kernel
theorem dX12_next_48 : decode cX12_next 48 = .ok (.aload_n 0, 1) := by decide +kernel
theorem dX12_next_49 : decode cX12_next 49 = .ok (.getfield 215, 3) := by decide +kernel
theorem dX12_next_52 : decode cX12_next 52 = .ok (.invokevirtual 218, 3) := by decide +kernel
theorem dX12_next_55 : decode cX12_next 55 = .ok (.istore_n 1, 1) := by decide +kernel
theorem dX12_next_56 : decode cX12_next 56 = .ok (.aload_n 0, 1) := by decide +kernel
theorem dX12_next_57 : decode cX12_next 57 = .ok (.iconst 4, 1) := by decide +kernel
theorem dX12_next_58 : decode cX12_next 58 = .ok (.putfield 224, 3) := by decide +kernel
theorem dX12_next_61 : decode cX12_next 61 = .ok (.iload_n 1, 1) := by decide +kernel
theorem dX12_next_62 : decode cX12_next 62 = .ok (.ifCond .ge 19, 3) := by decide +kernel
theorem dX12_next_65 : decode cX12_next 65 = .ok (.aload_n 0, 1) := by decide +kernel
theorem dX12_next_66 : decode cX12_next 66 = .ok (.iconst 0, 1) := by decide +kernel
theorem dX12_next_67 : decode cX12_next 67 = .ok (.putfield 224, 3) := by decide +kernel
theorem dX12_next_70 : decode cX12_next 70 = .ok (.aload_n 0, 1) := by decide +kernel
theorem dX12_next_71 : decode cX12_next 71 = .ok (.aload_n 0, 1) := by decide +kernel
theorem dX12_next_72 : decode cX12_next 72 = .ok (.getfield 209, 3) := by decide +kernel
theorem dX12_next_75 : decode cX12_next 75 = .ok (.putfield 221, 3) := by decide +kernel
theorem dX12_next_78 : decode cX12_next 78 = .ok (.goto 282, 3) := by decide +kernel
theorem dX12_next_81 : decode cX12_next 81 = .ok (.iload_n 1, 1) := by decide +kernel
theorem dX12_next_82 : decode cX12_next 82 = .ok (.bipush 97, 2) := by decide +kernel
theorem dX12_next_84 : decode cX12_next 84 = .ok (.bipush 122, 2) := by decide +kernel
theorem dX12_next_86 : decode cX12_next 86 = .ok (.invokestatic 148, 3) := by decide +kernel
theorem dX12_next_89 : decode cX12_next 89 = .ok (.ifCond .eq 90, 3) := by decide +kernel
theorem dX12_next_92 : decode cX12_next 92 = .ok (.aload_n 0, 1) := by decide +kernel
theorem dX12_next_93 : decode cX12_next 93 = .ok (.iconst 1, 1) := by decide +kernel
theorem dX12_next_94 : decode cX12_next 94 = .ok (.putfield 224, 3) := by decide +kernel
theorem dX12_next_97 : decode cX12_next 97 = .ok (.aload_n 0, 1) := by decide +kernel
theorem dX12_next_98 : decode cX12_next 98 = .ok (.lconst 0, 1) := by decide +kernel
theorem dX12_next_99 : decode cX12_next 99 = .ok (.putfield 227, 3) := by decide +kernel
theorem dX12_next_102 : decode cX12_next 102 = .ok (.iconst 0, 1) := by decide +kernel
theorem dX12_next_103 : decode cX12_next 103 = .ok (.istore_n 2, 1) := by decide +kernel
theorem dX12_next_104 : decode cX12_next 104 = .ok (.aload_n 0, 1) := by decide +kernel
theorem dX12_next_105 : decode cX12_next 105 = .ok (.aload_n 0, 1) := by decide +kernel
theorem dX12_next_106 : decode cX12_next 106 = .ok (.getfield 215, 3) := by decide +kernel
theorem dX12_next_109 : decode cX12_next 109 = .ok (.invokevirtual 218, 3) := by decide +kernel
theorem dX12_next_112 : decode cX12_next 112 = .ok (.bipush 97, 2) := by decide +kernel
theorem dX12_next_114 : decode cX12_next 114 = .ok (.bipush 122, 2) := by decide +kernel
theorem dX12_next_116 : decode cX12_next 116 = .ok (.invokestatic 148, 3) := by decide +kernel
theorem dX12_next_119 : decode cX12_next 119 = .ok (.ifCond .eq 57, 3) := by decide +kernel
theorem dX12_next_122 : decode cX12_next 122 = .ok (.aload_n 0, 1) := by decide +kernel
theorem dX12_next_123 : decode cX12_next 123 = .ok (.iload_n 2, 1) := by decide +kernel
theorem dX12_next_124 : decode cX12_next 124 = .ok (.bipush 8, 2) := by decide +kernel
theorem dX12_next_126 : decode cX12_next 126 = .ok (.if_icmp .ge 28, 3) := by decide +kernel
theorem dX12_next_129 : decode cX12_next 129 = .ok (.ldc2_w 231, 3) := by decide +kernel
theorem dX12_next_132 : decode cX12_next 132 = .ok (.aload_n 0, 1) := by decide +kernel
theorem dX12_next_133 : decode cX12_next 133 = .ok (.getfield 227, 3) := by decide +kernel
theorem dX12_next_136 : decode cX12_next 136 = .ok (.lmul, 1) := by decide +kernel
theorem dX12_next_137 : decode cX12_next 137 = .ok (.aload_n 0, 1) := by decide +kernel
theorem dX12_next_138 : decode cX12_next 138 = .ok (.aload_n 0, 1) := by decide +kernel
theorem dX12_next_139 : decode cX12_next 139 = .ok (.getfield 215, 3) := by decide +kernel
theorem dX12_next_142 : decode cX12_next 142 = .ok (.invokevirtual 218, 3) := by decide +kernel
theorem dX12_next_145 : decode cX12_next 145 = .ok (.i2l, 1) := by decide +kernel
theorem dX12_next_146 : decode cX12_next 146 = .ok (.ladd, 1) := by decide +kernel
theorem dX12_next_147 : decode cX12_next 147 = .ok (.ldc2_w 233, 3) := by decide +kernel
theorem dX12_next_150 : decode cX12_next 150 = .ok (.lsub, 1) := by decide +kernel
theorem dX12_next_151 : decode cX12_next 151 = .ok (.goto 6, 3) := by decide +kernel
theorem dX12_next_154 : decode cX12_next 154 = .ok (.ldc2_w 235, 3) := by decide +kernel
theorem dX12_next_157 : decode cX12_next 157 = .ok (.putfield 227, 3) := by decide +kernel
theorem dX12_next_160 : decode cX12_next 160 = .ok (.iinc 2 1, 3) := by decide +kernel
theorem dX12_next_163 : decode cX12_next 163 = .ok (.aload_n 0, 1) := by decide +kernel
theorem dX12_next_164 : decode cX12_next 164 = .ok (.dup, 1) := by decide +kernel
theorem dX12_next_165 : decode cX12_next 165 = .ok (.getfield 215, 3) := by decide +kernel
theorem dX12_next_168 : decode cX12_next 168 = .ok (.iconst 1, 1) := by decide +kernel
theorem dX12_next_169 : decode cX12_next 169 = .ok (.iadd, 1) := by decide +kernel
theorem dX12_next_170 : decode cX12_next 170 = .ok (.putfield 215, 3) := by decide +kernel
theorem dX12_next_173 : decode cX12_next 173 = .ok (.goto (-69), 3) := by decide +kernel
theorem dX12_next_176 : decode cX12_next 176 = .ok (.goto 184, 3) := by decide +kernel
theorem dX12_next_179 : decode cX12_next 179 = .ok (.iload_n 1, 1) := by decide +kernel
theorem dX12_next_180 : decode cX12_next 180 = .ok (.bipush 48, 2) := by decide +kernel
theorem dX12_next_182 : decode cX12_next 182 = .ok (.bipush 57, 2) := by decide +kernel
theorem dX12_next_184 : decode cX12_next 184 = .ok (.invokestatic 148, 3) := by decide +kernel
theorem dX12_next_187 : decode cX12_next 187 = .ok (.ifCond .eq 104, 3) := by decide +kernel
theorem dX12_next_190 : decode cX12_next 190 = .ok (.aload_n 0, 1) := by decide +kernel
theorem dX12_next_191 : decode cX12_next 191 = .ok (.iconst 2, 1) := by decide +kernel
theorem dX12_next_192 : decode cX12_next 192 = .ok (.putfield 224, 3) := by decide +kernel
theorem dX12_next_195 : decode cX12_next 195 = .ok (.aload_n 0, 1) := by decide +kernel
theorem dX12_next_196 : decode cX12_next 196 = .ok (.lconst 0, 1) := by decide +kernel
theorem dX12_next_197 : decode cX12_next 197 = .ok (.putfield 227, 3) := by decide +kernel
theorem dX12_next_200 : decode cX12_next 200 = .ok (.iconst 0, 1) := by decide +kernel
theorem dX12_next_201 : decode cX12_next 201 = .ok (.istore_n 2, 1) := by decide +kernel
theorem dX12_next_202 : decode cX12_next 202 = .ok (.aload_n 0, 1) := by decide +kernel
theorem dX12_next_203 : decode cX12_next 203 = .ok (.aload_n 0, 1) := by decide +kernel
theorem dX12_next_204 : decode cX12_next 204 = .ok (.getfield 215, 3) := by decide +kernel
theorem dX12_next_207 : decode cX12_next 207 = .ok (.invokevirtual 218, 3) := by decide +kernel
theorem dX12_next_210 : decode cX12_next 210 = .ok (.bipush 48, 2) := by decide +kernel
theorem dX12_next_212 : decode cX12_next 212 = .ok (.bipush 57, 2) := by decide +kernel
theorem dX12_next_214 : decode cX12_next 214 = .ok (.invokestatic 148, 3) := by decide +kernel
theorem dX12_next_217 : decode cX12_next 217 = .ok (.ifCond .eq 57, 3) := by decide +kernel
theorem dX12_next_220 : decode cX12_next 220 = .ok (.aload_n 0, 1) := by decide +kernel
theorem dX12_next_221 : decode cX12_next 221 = .ok (.iload_n 2, 1) := by decide +kernel
theorem dX12_next_222 : decode cX12_next 222 = .ok (.iconst 4, 1) := by decide +kernel
theorem dX12_next_223 : decode cX12_next 223 = .ok (.if_icmp .ge 28, 3) := by decide +kernel
theorem dX12_next_226 : decode cX12_next 226 = .ok (.ldc2_w 237, 3) := by decide +kernel
theorem dX12_next_229 : decode cX12_next 229 = .ok (.aload_n 0, 1) := by decide +kernel
theorem dX12_next_230 : decode cX12_next 230 = .ok (.getfield 227, 3) := by decide +kernel
theorem dX12_next_233 : decode cX12_next 233 = .ok (.lmul, 1) := by decide +kernel
theorem dX12_next_234 : decode cX12_next 234 = .ok (.aload_n 0, 1) := by decide +kernel
theorem dX12_next_235 : decode cX12_next 235 = .ok (.aload_n 0, 1) := by decide +kernel
theorem dX12_next_236 : decode cX12_next 236 = .ok (.getfield 215, 3) := by decide +kernel
theorem dX12_next_239 : decode cX12_next 239 = .ok (.invokevirtual 218, 3) := by decide +kernel
theorem dX12_next_242 : decode cX12_next 242 = .ok (.i2l, 1) := by decide +kernel
theorem dX12_next_243 : decode cX12_next 243 = .ok (.ladd, 1) := by decide +kernel
theorem dX12_next_244 : decode cX12_next 244 = .ok (.ldc2_w 239, 3) := by decide +kernel
theorem dX12_next_247 : decode cX12_next 247 = .ok (.lsub, 1) := by decide +kernel
theorem dX12_next_248 : decode cX12_next 248 = .ok (.goto 7, 3) := by decide +kernel
theorem dX12_next_251 : decode cX12_next 251 = .ok (.aload_n 0, 1) := by decide +kernel
theorem dX12_next_252 : decode cX12_next 252 = .ok (.getfield 227, 3) := by decide +kernel
theorem dX12_next_255 : decode cX12_next 255 = .ok (.putfield 227, 3) := by decide +kernel
theorem dX12_next_258 : decode cX12_next 258 = .ok (.iinc 2 1, 3) := by decide +kernel
theorem dX12_next_261 : decode cX12_next 261 = .ok (.aload_n 0, 1) := by decide +kernel
theorem dX12_next_262 : decode cX12_next 262 = .ok (.dup, 1) := by decide +kernel
theorem dX12_next_263 : decode cX12_next 263 = .ok (.getfield 215, 3) := by decide +kernel
theorem dX12_next_266 : decode cX12_next 266 = .ok (.iconst 1, 1) := by decide +kernel
theorem dX12_next_267 : decode cX12_next 267 = .ok (.iadd, 1) := by decide +kernel
theorem dX12_next_268 : decode cX12_next 268 = .ok (.putfield 215, 3) := by decide +kernel
theorem dX12_next_271 : decode cX12_next 271 = .ok (.goto (-69), 3) := by decide +kernel
theorem dX12_next_274 : decode cX12_next 274 = .ok (.aload_n 0, 1) := by decide +kernel
theorem dX12_next_275 : decode cX12_next 275 = .ok (.iload_n 2, 1) := by decide +kernel
theorem dX12_next_276 : decode cX12_next 276 = .ok (.iconst 4, 1) := by decide +kernel
theorem dX12_next_277 : decode cX12_next 277 = .ok (.if_icmp .le 7, 3) := by decide +kernel
theorem dX12_next_280 : decode cX12_next 280 = .ok (.iconst 4, 1) := by decide +kernel
theorem dX12_next_281 : decode cX12_next 281 = .ok (.goto 4, 3) := by decide +kernel
theorem dX12_next_284 : decode cX12_next 284 = .ok (.iconst 2, 1) := by decide +kernel
theorem dX12_next_285 : decode cX12_next 285 = .ok (.putfield 224, 3) := by decide +kernel
theorem dX12_next_288 : decode cX12_next 288 = .ok (.goto 72, 3) := by decide +kernel
theorem dX12_next_291 : decode cX12_next 291 = .ok (.iload_n 1, 1) := by decide +kernel
theorem dX12_next_292 : decode cX12_next 292 = .ok (.bipush 40, 2) := by decide +kernel
theorem dX12_next_294 : decode cX12_next 294 = .ok (.if_icmp .eq 45, 3) := by decide +kernel
theorem dX12_next_297 : decode cX12_next 297 = .ok (.iload_n 1, 1) := by decide +kernel
theorem dX12_next_298 : decode cX12_next 298 = .ok (.bipush 41, 2) := by decide +kernel
theorem dX12_next_300 : decode cX12_next 300 = .ok (.if_icmp .eq 39, 3) := by decide +kernel
theorem dX12_next_303 : decode cX12_next 303 = .ok (.iload_n 1, 1) := by decide +kernel
theorem dX12_next_304 : decode cX12_next 304 = .ok (.bipush 59, 2) := by decide +kernel
theorem dX12_next_306 : decode cX12_next 306 = .ok (.if_icmp .eq 33, 3) := by decide +kernel
theorem dX12_next_309 : decode cX12_next 309 = .ok (.iload_n 1, 1) := by decide +kernel
theorem dX12_next_310 : decode cX12_next 310 = .ok (.bipush 43, 2) := by decide +kernel
theorem dX12_next_312 : decode cX12_next 312 = .ok (.if_icmp .eq 27, 3) := by decide +kernel
theorem dX12_next_315 : decode cX12_next 315 = .ok (.iload_n 1, 1) := by decide +kernel
theorem dX12_next_316 : decode cX12_next 316 = .ok (.bipush 45, 2) := by decide +kernel
theorem dX12_next_318 : decode cX12_next 318 = .ok (.if_icmp .eq 21, 3) := by decide +kernel
theorem dX12_next_321 : decode cX12_next 321 = .ok (.iload_n 1, 1) := by decide +kernel
theorem dX12_next_322 : decode cX12_next 322 = .ok (.bipush 42, 2) := by decide +kernel
theorem dX12_next_324 : decode cX12_next 324 = .ok (.if_icmp .eq 15, 3) := by decide +kernel
theorem dX12_next_327 : decode cX12_next 327 = .ok (.iload_n 1, 1) := by decide +kernel
theorem dX12_next_328 : decode cX12_next 328 = .ok (.bipush 60, 2) := by decide +kernel
theorem dX12_next_330 : decode cX12_next 330 = .ok (.if_icmp .eq 9, 3) := by decide +kernel
theorem dX12_next_333 : decode cX12_next 333 = .ok (.iload_n 1, 1) := by decide +kernel
theorem dX12_next_334 : decode cX12_next 334 = .ok (.bipush 61, 2) := by decide +kernel
theorem dX12_next_336 : decode cX12_next 336 = .ok (.if_icmp .ne 24, 3) := by decide +kernel
theorem dX12_next_339 : decode cX12_next 339 = .ok (.aload_n 0, 1) := by decide +kernel
theorem dX12_next_340 : decode cX12_next 340 = .ok (.iconst 3, 1) := by decide +kernel
theorem dX12_next_341 : decode cX12_next 341 = .ok (.putfield 224, 3) := by decide +kernel
theorem dX12_next_344 : decode cX12_next 344 = .ok (.aload_n 0, 1) := by decide +kernel
theorem dX12_next_345 : decode cX12_next 345 = .ok (.iload_n 1, 1) := by decide +kernel
theorem dX12_next_346 : decode cX12_next 346 = .ok (.i2l, 1) := by decide +kernel
theorem dX12_next_347 : decode cX12_next 347 = .ok (.putfield 227, 3) := by decide +kernel
theorem dX12_next_350 : decode cX12_next 350 = .ok (.aload_n 0, 1) := by decide +kernel
theorem dX12_next_351 : decode cX12_next 351 = .ok (.dup, 1) := by decide +kernel
theorem dX12_next_352 : decode cX12_next 352 = .ok (.getfield 215, 3) := by decide +kernel
theorem dX12_next_355 : decode cX12_next 355 = .ok (.iconst 1, 1) := by decide +kernel
theorem dX12_next_356 : decode cX12_next 356 = .ok (.iadd, 1) := by decide +kernel
theorem dX12_next_357 : decode cX12_next 357 = .ok (.putfield 215, 3) := by decide +kernel
theorem dX12_next_360 : decode cX12_next 360 = .ok (.return_, 1) := by decide +kernel
theorem dX12_fail_0 : decode cX12_fail 0 = .ok (.aload_n 0, 1) := by decide +kernel
theorem dX12_fail_1 : decode cX12_fail 1 = .ok (.getfield 241, 3) := by decide +kernel
theorem dX12_fail_4 : decode cX12_fail 4 = .ok (.ifCond .ne 16, 3) := by decide +kernel
theorem dX12_fail_7 : decode cX12_fail 7 = .ok (.aload_n 0, 1) := by decide +kernel
theorem dX12_fail_8 : decode cX12_fail 8 = .ok (.iconst 1, 1) := by decide +kernel
theorem dX12_fail_9 : decode cX12_fail 9 = .ok (.putfield 241, 3) := by decide +kernel
theorem dX12_fail_12 : decode cX12_fail 12 = .ok (.aload_n 0, 1) := by decide +kernel
theorem dX12_fail_13 : decode cX12_fail 13 = .ok (.aload_n 0, 1) := by decide +kernel
theorem dX12_fail_14 : decode cX12_fail 14 = .ok (.getfield 221, 3) := by decide +kernel
theorem dX12_fail_17 : decode cX12_fail 17 = .ok (.putfield 245, 3) := by decide +kernel
theorem dX12_fail_20 : decode cX12_fail 20 = .ok (.return_, 1) := by decide +kernel
theorem dX12_isWord_0 : decode cX12_isWord 0 = .ok (.aload_n 0, 1) := by decide +kernel
theorem dX12_isWord_1 : decode cX12_isWord 1 = .ok (.getfield 241, 3) := by decide +kernel
theorem dX12_isWord_4 : decode cX12_isWord 4 = .ok (.ifCond .ne 24, 3) := by decide +kernel
theorem dX12_isWord_7 : decode cX12_isWord 7 = .ok (.aload_n 0, 1) := by decide +kernel
theorem dX12_isWord_8 : decode cX12_isWord 8 = .ok (.getfield 224, 3) := by decide +kernel
theorem dX12_isWord_11 : decode cX12_isWord 11 = .ok (.iconst 1, 1) := by decide +kernel
theorem dX12_isWord_12 : decode cX12_isWord 12 = .ok (.if_icmp .ne 16, 3) := by decide +kernel
theorem dX12_isWord_15 : decode cX12_isWord 15 = .ok (.aload_n 0, 1) := by decide +kernel
theorem dX12_isWord_16 : decode cX12_isWord 16 = .ok (.getfield 227, 3) := by decide +kernel
theorem dX12_isWord_19 : decode cX12_isWord 19 = .ok (.lload_n 1, 1) := by decide +kernel
theorem dX12_isWord_20 : decode cX12_isWord 20 = .ok (.lcmp, 1) := by decide +kernel
theorem dX12_isWord_21 : decode cX12_isWord 21 = .ok (.ifCond .ne 7, 3) := by decide +kernel
theorem dX12_isWord_24 : decode cX12_isWord 24 = .ok (.iconst 1, 1) := by decide +kernel
theorem dX12_isWord_25 : decode cX12_isWord 25 = .ok (.goto 4, 3) := by decide +kernel
theorem dX12_isWord_28 : decode cX12_isWord 28 = .ok (.iconst 0, 1) := by decide +kernel
theorem dX12_isWord_29 : decode cX12_isWord 29 = .ok (.ireturn, 1) := by decide +kernel
theorem dX12_isSign_0 : decode cX12_isSign 0 = .ok (.aload_n 0, 1) := by decide +kernel
theorem dX12_isSign_1 : decode cX12_isSign 1 = .ok (.getfield 241, 3) := by decide +kernel
theorem dX12_isSign_4 : decode cX12_isSign 4 = .ok (.ifCond .ne 25, 3) := by decide +kernel
theorem dX12_isSign_7 : decode cX12_isSign 7 = .ok (.aload_n 0, 1) := by decide +kernel
theorem dX12_isSign_8 : decode cX12_isSign 8 = .ok (.getfield 224, 3) := by decide +kernel
theorem dX12_isSign_11 : decode cX12_isSign 11 = .ok (.iconst 3, 1) := by decide +kernel
theorem dX12_isSign_12 : decode cX12_isSign 12 = .ok (.if_icmp .ne 17, 3) := by decide +kernel
theorem dX12_isSign_15 : decode cX12_isSign 15 = .ok (.aload_n 0, 1) := by decide +kernel
theorem dX12_isSign_16 : decode cX12_isSign 16 = .ok (.getfield 227, 3) := by decide +kernel
theorem dX12_isSign_19 : decode cX12_isSign 19 = .ok (.iload_n 1, 1) := by decide +kernel
theorem dX12_isSign_20 : decode cX12_isSign 20 = .ok (.i2l, 1) := by decide +kernel
theorem dX12_isSign_21 : decode cX12_isSign 21 = .ok (.lcmp, 1) := by decide +kernel
theorem dX12_isSign_22 : decode cX12_isSign 22 = .ok (.ifCond .ne 7, 3) := by decide +kernel
theorem dX12_isSign_25 : decode cX12_isSign 25 = .ok (.iconst 1, 1) := by decide +kernel
theorem dX12_isSign_26 : decode cX12_isSign 26 = .ok (.goto 4, 3) := by decide +kernel
theorem dX12_isSign_29 : decode cX12_isSign 29 = .ok (.iconst 0, 1) := by decide +kernel
theorem dX12_isSign_30 : decode cX12_isSign 30 = .ok (.ireturn, 1) := by decide +kernel
theorem dX12_opens_0 : decode cX12_opens 0 = .ok (.aload_n 0, 1) := by decide +kernel
theorem dX12_opens_1 : decode cX12_opens 1 = .ok (.getfield 248, 3) := by decide +kernel
theorem dX12_opens_4 : decode cX12_opens 4 = .ok (.iconst 5, 1) := by decide +kernel
theorem dX12_opens_5 : decode cX12_opens 5 = .ok (.if_icmp .ne 9, 3) := by decide +kernel
theorem dX12_opens_8 : decode cX12_opens 8 = .ok (.aload_n 0, 1) := by decide +kernel
theorem dX12_opens_9 : decode cX12_opens 9 = .ok (.invokevirtual 251, 3) := by decide +kernel
theorem dX12_opens_12 : decode cX12_opens 12 = .ok (.iconst 0, 1) := by decide +kernel
theorem dX12_opens_13 : decode cX12_opens 13 = .ok (.ireturn, 1) := by decide +kernel
theorem dX12_opens_14 : decode cX12_opens 14 = .ok (.aload_n 0, 1) := by decide +kernel
theorem dX12_opens_15 : decode cX12_opens 15 = .ok (.dup, 1) := by decide +kernel
theorem dX12_opens_16 : decode cX12_opens 16 = .ok (.getfield 248, 3) := by decide +kernel
theorem dX12_opens_19 : decode cX12_opens 19 = .ok (.iconst 1, 1) := by decide +kernel
theorem dX12_opens_20 : decode cX12_opens 20 = .ok (.iadd, 1) := by decide +kernel
theorem dX12_opens_21 : decode cX12_opens 21 = .ok (.putfield 248, 3) := by decide +kernel
theorem dX12_opens_24 : decode cX12_opens 24 = .ok (.aload_n 0, 1) := by decide +kernel
theorem dX12_opens_25 : decode cX12_opens 25 = .ok (.invokevirtual 254, 3) := by decide +kernel
theorem dX12_opens_28 : decode cX12_opens 28 = .ok (.iconst 1, 1) := by decide +kernel
theorem dX12_opens_29 : decode cX12_opens 29 = .ok (.ireturn, 1) := by decide +kernel
theorem dX12_name_0 : decode cX12_name 0 = .ok (.aload_n 0, 1) := by decide +kernel
theorem dX12_name_1 : decode cX12_name 1 = .ok (.ldc2_w 257, 3) := by decide +kernel
theorem dX12_name_4 : decode cX12_name 4 = .ok (.invokevirtual 259, 3) := by decide +kernel
theorem dX12_name_7 : decode cX12_name 7 = .ok (.ifCond .eq 8, 3) := by decide +kernel
theorem dX12_name_10 : decode cX12_name 10 = .ok (.aload_n 0, 1) := by decide +kernel
theorem dX12_name_11 : decode cX12_name 11 = .ok (.getfield 263, 3) := by decide +kernel
theorem dX12_name_14 : decode cX12_name 14 = .ok (.ireturn, 1) := by decide +kernel
theorem dX12_name_15 : decode cX12_name 15 = .ok (.aload_n 0, 1) := by decide +kernel
theorem dX12_name_16 : decode cX12_name 16 = .ok (.ldc2_w 266, 3) := by decide +kernel
theorem dX12_name_19 : decode cX12_name 19 = .ok (.invokevirtual 259, 3) := by decide +kernel
theorem dX12_name_22 : decode cX12_name 22 = .ok (.ifCond .eq 8, 3) := by decide +kernel
theorem dX12_name_25 : decode cX12_name 25 = .ok (.aload_n 0, 1) := by decide +kernel
theorem dX12_name_26 : decode cX12_name 26 = .ok (.getfield 268, 3) := by decide +kernel
theorem dX12_name_29 : decode cX12_name 29 = .ok (.ireturn, 1) := by decide +kernel
theorem dX12_name_30 : decode cX12_name 30 = .ok (.aload_n 0, 1) := by decide +kernel
theorem dX12_name_31 : decode cX12_name 31 = .ok (.ldc2_w 271, 3) := by decide +kernel
theorem dX12_name_34 : decode cX12_name 34 = .ok (.invokevirtual 259, 3) := by decide +kernel
theorem dX12_name_37 : decode cX12_name 37 = .ok (.ifCond .eq 8, 3) := by decide +kernel
theorem dX12_name_40 : decode cX12_name 40 = .ok (.aload_n 0, 1) := by decide +kernel
theorem dX12_name_41 : decode cX12_name 41 = .ok (.getfield 273, 3) := by decide +kernel
theorem dX12_name_44 : decode cX12_name 44 = .ok (.ireturn, 1) := by decide +kernel
theorem dX12_name_45 : decode cX12_name 45 = .ok (.aload_n 0, 1) := by decide +kernel
theorem dX12_name_46 : decode cX12_name 46 = .ok (.ldc2_w 276, 3) := by decide +kernel
theorem dX12_name_49 : decode cX12_name 49 = .ok (.invokevirtual 259, 3) := by decide +kernel
theorem dX12_name_52 : decode cX12_name 52 = .ok (.ifCond .eq 10, 3) := by decide +kernel
theorem dX12_name_55 : decode cX12_name 55 = .ok (.aload_n 0, 1) := by decide +kernel
theorem dX12_name_56 : decode cX12_name 56 = .ok (.getfield 124, 3) := by decide +kernel
theorem dX12_name_59 : decode cX12_name 59 = .ok (.iconst 1, 1) := by decide +kernel
theorem dX12_name_60 : decode cX12_name 60 = .ok (.isub, 1) := by decide +kernel
theorem dX12_name_61 : decode cX12_name 61 = .ok (.ireturn, 1) := by decide +kernel
theorem dX12_name_62 : decode cX12_name 62 = .ok (.aload_n 0, 1) := by decide +kernel
theorem dX12_name_63 : decode cX12_name 63 = .ok (.ldc2_w 278, 3) := by decide +kernel
theorem dX12_name_66 : decode cX12_name 66 = .ok (.invokevirtual 259, 3) := by decide +kernel
theorem dX12_name_69 : decode cX12_name 69 = .ok (.ifCond .eq 12, 3) := by decide +kernel
theorem dX12_name_72 : decode cX12_name 72 = .ok (.aload_n 0, 1) := by decide +kernel
theorem dX12_name_73 : decode cX12_name 73 = .ok (.iconst (-1), 1) := by decide +kernel
theorem dX12_name_74 : decode cX12_name 74 = .ok (.invokevirtual 168, 3) := by decide +kernel
theorem dX12_name_77 : decode cX12_name 77 = .ok (.invokestatic 179, 3) := by decide +kernel
theorem dX12_name_80 : decode cX12_name 80 = .ok (.ireturn, 1) := by decide +kernel
theorem dX12_name_81 : decode cX12_name 81 = .ok (.aload_n 0, 1) := by decide +kernel
theorem dX12_name_82 : decode cX12_name 82 = .ok (.ldc2_w 280, 3) := by decide +kernel
theorem dX12_name_85 : decode cX12_name 85 = .ok (.invokevirtual 259, 3) := by decide +kernel
theorem dX12_name_88 : decode cX12_name 88 = .ok (.ifCond .eq 20, 3) := by decide +kernel
theorem dX12_name_91 : decode cX12_name 91 = .ok (.aload_n 0, 1) := by decide +kernel
theorem dX12_name_92 : decode cX12_name 92 = .ok (.aload_n 0, 1) := by decide +kernel
theorem dX12_name_93 : decode cX12_name 93 = .ok (.getfield 263, 3) := by decide +kernel
theorem dX12_name_96 : decode cX12_name 96 = .ok (.aload_n 0, 1) := by decide +kernel
theorem dX12_name_97 : decode cX12_name 97 = .ok (.getfield 268, 3) := by decide +kernel
theorem dX12_name_100 : decode cX12_name 100 = .ok (.aload_n 0, 1) := by decide +kernel
theorem dX12_name_101 : decode cX12_name 101 = .ok (.getfield 273, 3) := by decide +kernel
theorem dX12_name_104 : decode cX12_name 104 = .ok (.invokevirtual 182, 3) := by decide +kernel
theorem dX12_name_107 : decode cX12_name 107 = .ok (.ireturn, 1) := by decide +kernel
theorem dX12_name_108 : decode cX12_name 108 = .ok (.aload_n 0, 1) := by decide +kernel
theorem dX12_name_109 : decode cX12_name 109 = .ok (.invokevirtual 251, 3) := by decide +kernel
theorem dX12_name_112 : decode cX12_name 112 = .ok (.iconst 0, 1) := by decide +kernel
theorem dX12_name_113 : decode cX12_name 113 = .ok (.ireturn, 1) := by decide +kernel
theorem dX12_one_0 : decode cX12_one 0 = .ok (.iconst 0, 1) := by decide +kernel
theorem dX12_one_1 : decode cX12_one 1 = .ok (.istore_n 1, 1) := by decide +kernel
theorem dX12_one_2 : decode cX12_one 2 = .ok (.aload_n 0, 1) := by decide +kernel
theorem dX12_one_3 : decode cX12_one 3 = .ok (.bipush 45, 2) := by decide +kernel
theorem dX12_one_5 : decode cX12_one 5 = .ok (.invokevirtual 282, 3) := by decide +kernel
theorem dX12_one_8 : decode cX12_one 8 = .ok (.ifCond .eq 29, 3) := by decide +kernel
theorem dX12_one_11 : decode cX12_one 11 = .ok (.aload_n 0, 1) := by decide +kernel
theorem dX12_one_12 : decode cX12_one 12 = .ok (.invokevirtual 285, 3) := by decide +kernel
theorem dX12_one_15 : decode cX12_one 15 = .ok (.ifCond .eq 146, 3) := by decide +kernel
theorem dX12_one_18 : decode cX12_one 18 = .ok (.aload_n 0, 1) := by decide +kernel
theorem dX12_one_19 : decode cX12_one 19 = .ok (.invokevirtual 289, 3) := by decide +kernel
theorem dX12_one_22 : decode cX12_one 22 = .ok (.ineg, 1) := by decide +kernel
theorem dX12_one_23 : decode cX12_one 23 = .ok (.istore_n 1, 1) := by decide +kernel
theorem dX12_one_24 : decode cX12_one 24 = .ok (.aload_n 0, 1) := by decide +kernel
theorem dX12_one_25 : decode cX12_one 25 = .ok (.dup, 1) := by decide +kernel
theorem dX12_one_26 : decode cX12_one 26 = .ok (.getfield 248, 3) := by decide +kernel
theorem dX12_one_29 : decode cX12_one 29 = .ok (.iconst 1, 1) := by decide +kernel
theorem dX12_one_30 : decode cX12_one 30 = .ok (.isub, 1) := by decide +kernel
theorem dX12_one_31 : decode cX12_one 31 = .ok (.putfield 248, 3) := by decide +kernel
theorem dX12_one_34 : decode cX12_one 34 = .ok (.goto 127, 3) := by decide +kernel
theorem dX12_one_37 : decode cX12_one 37 = .ok (.aload_n 0, 1) := by decide +kernel
theorem dX12_one_38 : decode cX12_one 38 = .ok (.bipush 40, 2) := by decide +kernel
theorem dX12_one_40 : decode cX12_one 40 = .ok (.invokevirtual 282, 3) := by decide +kernel
theorem dX12_one_43 : decode cX12_one 43 = .ok (.ifCond .eq 52, 3) := by decide +kernel
theorem dX12_one_46 : decode cX12_one 46 = .ok (.aload_n 0, 1) := by decide +kernel
theorem dX12_one_47 : decode cX12_one 47 = .ok (.invokevirtual 285, 3) := by decide +kernel
theorem dX12_one_50 : decode cX12_one 50 = .ok (.ifCond .eq 111, 3) := by decide +kernel
theorem dX12_one_53 : decode cX12_one 53 = .ok (.aload_n 0, 1) := by decide +kernel
theorem dX12_one_54 : decode cX12_one 54 = .ok (.invokevirtual 293, 3) := by decide +kernel
theorem dX12_one_57 : decode cX12_one 57 = .ok (.istore_n 1, 1) := by decide +kernel
theorem dX12_one_58 : decode cX12_one 58 = .ok (.aload_n 0, 1) := by decide +kernel
theorem dX12_one_59 : decode cX12_one 59 = .ok (.bipush 41, 2) := by decide +kernel
theorem dX12_one_61 : decode cX12_one 61 = .ok (.invokevirtual 282, 3) := by decide +kernel
theorem dX12_one_64 : decode cX12_one 64 = .ok (.ifCond .ne 7, 3) := by decide +kernel
theorem dX12_one_67 : decode cX12_one 67 = .ok (.aload_n 0, 1) := by decide +kernel
theorem dX12_one_68 : decode cX12_one 68 = .ok (.invokevirtual 251, 3) := by decide +kernel
theorem dX12_one_71 : decode cX12_one 71 = .ok (.aload_n 0, 1) := by decide +kernel
theorem dX12_one_72 : decode cX12_one 72 = .ok (.dup, 1) := by decide +kernel
theorem dX12_one_73 : decode cX12_one 73 = .ok (.getfield 248, 3) := by decide +kernel
theorem dX12_one_76 : decode cX12_one 76 = .ok (.iconst 1, 1) := by decide +kernel
theorem dX12_one_77 : decode cX12_one 77 = .ok (.isub, 1) := by decide +kernel
theorem dX12_one_78 : decode cX12_one 78 = .ok (.putfield 248, 3) := by decide +kernel
theorem dX12_one_81 : decode cX12_one 81 = .ok (.aload_n 0, 1) := by decide +kernel
theorem dX12_one_82 : decode cX12_one 82 = .ok (.getfield 241, 3) := by decide +kernel
theorem dX12_one_85 : decode cX12_one 85 = .ok (.ifCond .ne 76, 3) := by decide +kernel
theorem dX12_one_88 : decode cX12_one 88 = .ok (.aload_n 0, 1) := by decide +kernel
theorem dX12_one_89 : decode cX12_one 89 = .ok (.invokevirtual 254, 3) := by decide +kernel
theorem dX12_one_92 : decode cX12_one 92 = .ok (.goto 69, 3) := by decide +kernel
theorem dX12_one_95 : decode cX12_one 95 = .ok (.aload_n 0, 1) := by decide +kernel
theorem dX12_one_96 : decode cX12_one 96 = .ok (.getfield 241, 3) := by decide +kernel
theorem dX12_one_99 : decode cX12_one 99 = .ok (.ifCond .ne 24, 3) := by decide +kernel
theorem dX12_one_102 : decode cX12_one 102 = .ok (.aload_n 0, 1) := by decide +kernel
theorem dX12_one_103 : decode cX12_one 103 = .ok (.getfield 224, 3) := by decide +kernel
theorem dX12_one_106 : decode cX12_one 106 = .ok (.iconst 2, 1) := by decide +kernel
theorem dX12_one_107 : decode cX12_one 107 = .ok (.if_icmp .ne 16, 3) := by decide +kernel
theorem dX12_one_110 : decode cX12_one 110 = .ok (.aload_n 0, 1) := by decide +kernel
theorem dX12_one_111 : decode cX12_one 111 = .ok (.getfield 227, 3) := by decide +kernel
theorem dX12_one_114 : decode cX12_one 114 = .ok (.l2i, 1) := by decide +kernel
theorem dX12_one_115 : decode cX12_one 115 = .ok (.istore_n 1, 1) := by decide +kernel
theorem dX12_one_116 : decode cX12_one 116 = .ok (.aload_n 0, 1) := by decide +kernel
theorem dX12_one_117 : decode cX12_one 117 = .ok (.invokevirtual 254, 3) := by decide +kernel
theorem dX12_one_120 : decode cX12_one 120 = .ok (.goto 41, 3) := by decide +kernel
theorem dX12_one_123 : decode cX12_one 123 = .ok (.aload_n 0, 1) := by decide +kernel
theorem dX12_one_124 : decode cX12_one 124 = .ok (.getfield 241, 3) := by decide +kernel
theorem dX12_one_127 : decode cX12_one 127 = .ok (.ifCond .ne 30, 3) := by decide +kernel
theorem dX12_one_130 : decode cX12_one 130 = .ok (.aload_n 0, 1) := by decide +kernel
theorem dX12_one_131 : decode cX12_one 131 = .ok (.getfield 224, 3) := by decide +kernel
theorem dX12_one_134 : decode cX12_one 134 = .ok (.iconst 1, 1) := by decide +kernel
theorem dX12_one_135 : decode cX12_one 135 = .ok (.if_icmp .ne 22, 3) := by decide +kernel
theorem dX12_one_138 : decode cX12_one 138 = .ok (.aload_n 0, 1) := by decide +kernel
theorem dX12_one_139 : decode cX12_one 139 = .ok (.invokevirtual 296, 3) := by decide +kernel
theorem dX12_one_142 : decode cX12_one 142 = .ok (.istore_n 1, 1) := by decide +kernel
theorem dX12_one_143 : decode cX12_one 143 = .ok (.aload_n 0, 1) := by decide +kernel
theorem dX12_one_144 : decode cX12_one 144 = .ok (.getfield 241, 3) := by decide +kernel
theorem dX12_one_147 : decode cX12_one 147 = .ok (.ifCond .ne 14, 3) := by decide +kernel
theorem dX12_one_150 : decode cX12_one 150 = .ok (.aload_n 0, 1) := by decide +kernel
theorem dX12_one_151 : decode cX12_one 151 = .ok (.invokevirtual 254, 3) := by decide +kernel
theorem dX12_one_154 : decode cX12_one 154 = .ok (.goto 7, 3) := by decide +kernel
theorem dX12_one_157 : decode cX12_one 157 = .ok (.aload_n 0, 1) := by decide +kernel
theorem dX12_one_158 : decode cX12_one 158 = .ok (.invokevirtual 251, 3) := by decide +kernel
theorem dX12_one_161 : decode cX12_one 161 = .ok (.iload_n 1, 1) := by decide +kernel
theorem dX12_one_162 : decode cX12_one 162 = .ok (.ireturn, 1) := by decide +kernel
theorem dX12_term_0 : decode cX12_term 0 = .ok (.aload_n 0, 1) := by decide +kernel
theorem dX12_term_1 : decode cX12_term 1 = .ok (.invokevirtual 289, 3) := by decide +kernel
theorem dX12_term_4 : decode cX12_term 4 = .ok (.istore_n 1, 1) := by decide +kernel
theorem dX12_term_5 : decode cX12_term 5 = .ok (.aload_n 0, 1) := by decide +kernel
theorem dX12_term_6 : decode cX12_term 6 = .ok (.bipush 42, 2) := by decide +kernel
theorem dX12_term_8 : decode cX12_term 8 = .ok (.invokevirtual 282, 3) := by decide +kernel
theorem dX12_term_11 : decode cX12_term 11 = .ok (.ifCond .eq 17, 3) := by decide +kernel
theorem dX12_term_14 : decode cX12_term 14 = .ok (.aload_n 0, 1) := by decide +kernel
theorem dX12_term_15 : decode cX12_term 15 = .ok (.invokevirtual 254, 3) := by decide +kernel
theorem dX12_term_18 : decode cX12_term 18 = .ok (.iload_n 1, 1) := by decide +kernel
theorem dX12_term_19 : decode cX12_term 19 = .ok (.aload_n 0, 1) := by decide +kernel
theorem dX12_term_20 : decode cX12_term 20 = .ok (.invokevirtual 289, 3) := by decide +kernel
theorem dX12_term_23 : decode cX12_term 23 = .ok (.imul, 1) := by decide +kernel
theorem dX12_term_24 : decode cX12_term 24 = .ok (.istore_n 1, 1) := by decide +kernel
theorem dX12_term_25 : decode cX12_term 25 = .ok (.goto (-20), 3) := by decide +kernel
theorem dX12_term_28 : decode cX12_term 28 = .ok (.iload_n 1, 1) := by decide +kernel
theorem dX12_term_29 : decode cX12_term 29 = .ok (.ireturn, 1) := by decide +kernel
theorem dX12_added_0 : decode cX12_added 0 = .ok (.aload_n 0, 1) := by decide +kernel
theorem dX12_added_1 : decode cX12_added 1 = .ok (.invokevirtual 299, 3) := by decide +kernel
theorem dX12_added_4 : decode cX12_added 4 = .ok (.istore_n 1, 1) := by decide +kernel
theorem dX12_added_5 : decode cX12_added 5 = .ok (.aload_n 0, 1) := by decide +kernel
theorem dX12_added_6 : decode cX12_added 6 = .ok (.bipush 43, 2) := by decide +kernel
theorem dX12_added_8 : decode cX12_added 8 = .ok (.invokevirtual 282, 3) := by decide +kernel
theorem dX12_added_11 : decode cX12_added 11 = .ok (.ifCond .ne 12, 3) := by decide +kernel
theorem dX12_added_14 : decode cX12_added 14 = .ok (.aload_n 0, 1) := by decide +kernel
theorem dX12_added_15 : decode cX12_added 15 = .ok (.bipush 45, 2) := by decide +kernel
theorem dX12_added_17 : decode cX12_added 17 = .ok (.invokevirtual 282, 3) := by decide +kernel
theorem dX12_added_20 : decode cX12_added 20 = .ok (.ifCond .eq 46, 3) := by decide +kernel
theorem dX12_added_23 : decode cX12_added 23 = .ok (.aload_n 0, 1) := by decide +kernel
theorem dX12_added_24 : decode cX12_added 24 = .ok (.getfield 227, 3) := by decide +kernel
theorem dX12_added_27 : decode cX12_added 27 = .ok (.ldc2_w 302, 3) := by decide +kernel
theorem dX12_added_30 : decode cX12_added 30 = .ok (.lcmp, 1) := by decide +kernel
theorem dX12_added_31 : decode cX12_added 31 = .ok (.ifCond .ne 7, 3) := by decide +kernel
theorem dX12_added_34 : decode cX12_added 34 = .ok (.iconst 1, 1) := by decide +kernel
theorem dX12_added_35 : decode cX12_added 35 = .ok (.goto 4, 3) := by decide +kernel
theorem dX12_added_38 : decode cX12_added 38 = .ok (.iconst 0, 1) := by decide +kernel
theorem dX12_added_39 : decode cX12_added 39 = .ok (.istore_n 2, 1) := by decide +kernel
theorem dX12_added_40 : decode cX12_added 40 = .ok (.aload_n 0, 1) := by decide +kernel
theorem dX12_added_41 : decode cX12_added 41 = .ok (.invokevirtual 254, 3) := by decide +kernel
theorem dX12_added_44 : decode cX12_added 44 = .ok (.aload_n 0, 1) := by decide +kernel
theorem dX12_added_45 : decode cX12_added 45 = .ok (.invokevirtual 299, 3) := by decide +kernel
theorem dX12_added_48 : decode cX12_added 48 = .ok (.istore_n 3, 1) := by decide +kernel
theorem dX12_added_49 : decode cX12_added 49 = .ok (.iload_n 2, 1) := by decide +kernel
theorem dX12_added_50 : decode cX12_added 50 = .ok (.ifCond .eq 9, 3) := by decide +kernel
theorem dX12_added_53 : decode cX12_added 53 = .ok (.iload_n 1, 1) := by decide +kernel
theorem dX12_added_54 : decode cX12_added 54 = .ok (.iload_n 3, 1) := by decide +kernel
theorem dX12_added_55 : decode cX12_added 55 = .ok (.iadd, 1) := by decide +kernel
theorem dX12_added_56 : decode cX12_added 56 = .ok (.goto 6, 3) := by decide +kernel
theorem dX12_added_59 : decode cX12_added 59 = .ok (.iload_n 1, 1) := by decide +kernel
theorem dX12_added_60 : decode cX12_added 60 = .ok (.iload_n 3, 1) := by decide +kernel
theorem dX12_added_61 : decode cX12_added 61 = .ok (.isub, 1) := by decide +kernel
theorem dX12_added_62 : decode cX12_added 62 = .ok (.istore_n 1, 1) := by decide +kernel
theorem dX12_added_63 : decode cX12_added 63 = .ok (.goto (-58), 3) := by decide +kernel
theorem dX12_added_66 : decode cX12_added 66 = .ok (.iload_n 1, 1) := by decide +kernel
theorem dX12_added_67 : decode cX12_added 67 = .ok (.ireturn, 1) := by decide +kernel
theorem dX12_not_0 : decode cX12_not 0 = .ok (.aload_n 0, 1) := by decide +kernel
theorem dX12_not_1 : decode cX12_not 1 = .ok (.ldc2_w 304, 3) := by decide +kernel
theorem dX12_not_4 : decode cX12_not 4 = .ok (.invokevirtual 259, 3) := by decide +kernel
theorem dX12_not_7 : decode cX12_not 7 = .ok (.ifCond .eq 37, 3) := by decide +kernel
theorem dX12_not_10 : decode cX12_not 10 = .ok (.aload_n 0, 1) := by decide +kernel
theorem dX12_not_11 : decode cX12_not 11 = .ok (.invokevirtual 285, 3) := by decide +kernel
theorem dX12_not_14 : decode cX12_not 14 = .ok (.ifCond .ne 5, 3) := by decide +kernel
theorem dX12_not_17 : decode cX12_not 17 = .ok (.iconst 0, 1) := by decide +kernel
theorem dX12_not_18 : decode cX12_not 18 = .ok (.ireturn, 1) := by decide +kernel
theorem dX12_not_19 : decode cX12_not 19 = .ok (.aload_n 0, 1) := by decide +kernel
theorem dX12_not_20 : decode cX12_not 20 = .ok (.invokevirtual 306, 3) := by decide +kernel
theorem dX12_not_23 : decode cX12_not 23 = .ok (.istore_n 1, 1) := by decide +kernel
theorem dX12_not_24 : decode cX12_not 24 = .ok (.aload_n 0, 1) := by decide +kernel
theorem dX12_not_25 : decode cX12_not 25 = .ok (.dup, 1) := by decide +kernel
theorem dX12_not_26 : decode cX12_not 26 = .ok (.getfield 248, 3) := by decide +kernel
theorem dX12_not_29 : decode cX12_not 29 = .ok (.iconst 1, 1) := by decide +kernel
theorem dX12_not_30 : decode cX12_not 30 = .ok (.isub, 1) := by decide +kernel
theorem dX12_not_31 : decode cX12_not 31 = .ok (.putfield 248, 3) := by decide +kernel
theorem dX12_not_34 : decode cX12_not 34 = .ok (.iload_n 1, 1) := by decide +kernel
theorem dX12_not_35 : decode cX12_not 35 = .ok (.ifCond .ne 7, 3) := by decide +kernel
theorem dX12_not_38 : decode cX12_not 38 = .ok (.iconst 1, 1) := by decide +kernel
theorem dX12_not_39 : decode cX12_not 39 = .ok (.goto 4, 3) := by decide +kernel
theorem dX12_not_42 : decode cX12_not 42 = .ok (.iconst 0, 1) := by decide +kernel
theorem dX12_not_43 : decode cX12_not 43 = .ok (.ireturn, 1) := by decide +kernel
theorem dX12_not_44 : decode cX12_not 44 = .ok (.aload_n 0, 1) := by decide +kernel
theorem dX12_not_45 : decode cX12_not 45 = .ok (.invokevirtual 309, 3) := by decide +kernel
theorem dX12_not_48 : decode cX12_not 48 = .ok (.istore_n 1, 1) := by decide +kernel
theorem dX12_not_49 : decode cX12_not 49 = .ok (.aload_n 0, 1) := by decide +kernel
theorem dX12_not_50 : decode cX12_not 50 = .ok (.bipush 60, 2) := by decide +kernel
theorem dX12_not_52 : decode cX12_not 52 = .ok (.invokevirtual 282, 3) := by decide +kernel
theorem dX12_not_55 : decode cX12_not 55 = .ok (.ifCond .ne 14, 3) := by decide +kernel
theorem dX12_not_58 : decode cX12_not 58 = .ok (.aload_n 0, 1) := by decide +kernel
theorem dX12_not_59 : decode cX12_not 59 = .ok (.bipush 61, 2) := by decide +kernel
theorem dX12_not_61 : decode cX12_not 61 = .ok (.invokevirtual 282, 3) := by decide +kernel
theorem dX12_not_64 : decode cX12_not 64 = .ok (.ifCond .ne 5, 3) := by decide +kernel
theorem dX12_not_67 : decode cX12_not 67 = .ok (.iload_n 1, 1) := by decide +kernel
theorem dX12_not_68 : decode cX12_not 68 = .ok (.ireturn, 1) := by decide +kernel
theorem dX12_not_69 : decode cX12_not 69 = .ok (.aload_n 0, 1) := by decide +kernel
theorem dX12_not_70 : decode cX12_not 70 = .ok (.getfield 227, 3) := by decide +kernel
theorem dX12_not_73 : decode cX12_not 73 = .ok (.ldc2_w 312, 3) := by decide +kernel
theorem dX12_not_76 : decode cX12_not 76 = .ok (.lcmp, 1) := by decide +kernel
theorem dX12_not_77 : decode cX12_not 77 = .ok (.ifCond .ne 7, 3) := by decide +kernel
theorem dX12_not_80 : decode cX12_not 80 = .ok (.iconst 1, 1) := by decide +kernel
theorem dX12_not_81 : decode cX12_not 81 = .ok (.goto 4, 3) := by decide +kernel
theorem dX12_not_84 : decode cX12_not 84 = .ok (.iconst 0, 1) := by decide +kernel
theorem dX12_not_85 : decode cX12_not 85 = .ok (.istore_n 2, 1) := by decide +kernel
theorem dX12_not_86 : decode cX12_not 86 = .ok (.aload_n 0, 1) := by decide +kernel
theorem dX12_not_87 : decode cX12_not 87 = .ok (.invokevirtual 254, 3) := by decide +kernel
theorem dX12_not_90 : decode cX12_not 90 = .ok (.aload_n 0, 1) := by decide +kernel
theorem dX12_not_91 : decode cX12_not 91 = .ok (.invokevirtual 309, 3) := by decide +kernel
theorem dX12_not_94 : decode cX12_not 94 = .ok (.istore_n 3, 1) := by decide +kernel
theorem dX12_not_95 : decode cX12_not 95 = .ok (.iload_n 2, 1) := by decide +kernel
theorem dX12_not_96 : decode cX12_not 96 = .ok (.ifCond .eq 11, 3) := by decide +kernel
theorem dX12_not_99 : decode cX12_not 99 = .ok (.iload_n 1, 1) := by decide +kernel
theorem dX12_not_100 : decode cX12_not 100 = .ok (.iload_n 3, 1) := by decide +kernel
theorem dX12_not_101 : decode cX12_not 101 = .ok (.if_icmp .ge 15, 3) := by decide +kernel
theorem dX12_not_104 : decode cX12_not 104 = .ok (.goto 8, 3) := by decide +kernel
theorem dX12_not_107 : decode cX12_not 107 = .ok (.iload_n 1, 1) := by decide +kernel
theorem dX12_not_108 : decode cX12_not 108 = .ok (.iload_n 3, 1) := by decide +kernel
theorem dX12_not_109 : decode cX12_not 109 = .ok (.if_icmp .ne 7, 3) := by decide +kernel
theorem dX12_not_112 : decode cX12_not 112 = .ok (.iconst 1, 1) := by decide +kernel
theorem dX12_not_113 : decode cX12_not 113 = .ok (.goto 4, 3) := by decide +kernel
theorem dX12_not_116 : decode cX12_not 116 = .ok (.iconst 0, 1) := by decide +kernel
theorem dX12_not_117 : decode cX12_not 117 = .ok (.ireturn, 1) := by decide +kernel
theorem dX12_both__0 : decode cX12_both_ 0 = .ok (.aload_n 0, 1) := by decide +kernel
theorem dX12_both__1 : decode cX12_both_ 1 = .ok (.invokevirtual 306, 3) := by decide +kernel
theorem dX12_both__4 : decode cX12_both_ 4 = .ok (.istore_n 1, 1) := by decide +kernel
theorem dX12_both__5 : decode cX12_both_ 5 = .ok (.aload_n 0, 1) := by decide +kernel
theorem dX12_both__6 : decode cX12_both_ 6 = .ok (.ldc2_w 314, 3) := by decide +kernel
theorem dX12_both__9 : decode cX12_both_ 9 = .ok (.invokevirtual 259, 3) := by decide +kernel
theorem dX12_both__12 : decode cX12_both_ 12 = .ok (.ifCond .eq 29, 3) := by decide +kernel
theorem dX12_both__15 : decode cX12_both_ 15 = .ok (.aload_n 0, 1) := by decide +kernel
theorem dX12_both__16 : decode cX12_both_ 16 = .ok (.invokevirtual 254, 3) := by decide +kernel
theorem dX12_both__19 : decode cX12_both_ 19 = .ok (.aload_n 0, 1) := by decide +kernel
theorem dX12_both__20 : decode cX12_both_ 20 = .ok (.invokevirtual 306, 3) := by decide +kernel
theorem dX12_both__23 : decode cX12_both_ 23 = .ok (.istore_n 2, 1) := by decide +kernel
theorem dX12_both__24 : decode cX12_both_ 24 = .ok (.iload_n 1, 1) := by decide +kernel
theorem dX12_both__25 : decode cX12_both_ 25 = .ok (.ifCond .eq 11, 3) := by decide +kernel
theorem dX12_both__28 : decode cX12_both_ 28 = .ok (.iload_n 2, 1) := by decide +kernel
theorem dX12_both__29 : decode cX12_both_ 29 = .ok (.ifCond .eq 7, 3) := by decide +kernel
theorem dX12_both__32 : decode cX12_both_ 32 = .ok (.iconst 1, 1) := by decide +kernel
theorem dX12_both__33 : decode cX12_both_ 33 = .ok (.goto 4, 3) := by decide +kernel
theorem dX12_both__36 : decode cX12_both_ 36 = .ok (.iconst 0, 1) := by decide +kernel
theorem dX12_both__37 : decode cX12_both_ 37 = .ok (.istore_n 1, 1) := by decide +kernel
theorem dX12_both__38 : decode cX12_both_ 38 = .ok (.goto (-33), 3) := by decide +kernel
theorem dX12_both__41 : decode cX12_both_ 41 = .ok (.iload_n 1, 1) := by decide +kernel
theorem dX12_both__42 : decode cX12_both_ 42 = .ok (.ireturn, 1) := by decide +kernel
theorem dX12_either_0 : decode cX12_either 0 = .ok (.aload_n 0, 1) := by decide +kernel
theorem dX12_either_1 : decode cX12_either 1 = .ok (.invokevirtual 316, 3) := by decide +kernel
theorem dX12_either_4 : decode cX12_either 4 = .ok (.istore_n 1, 1) := by decide +kernel
theorem dX12_either_5 : decode cX12_either 5 = .ok (.aload_n 0, 1) := by decide +kernel
theorem dX12_either_6 : decode cX12_either 6 = .ok (.ldc2_w 319, 3) := by decide +kernel
theorem dX12_either_9 : decode cX12_either 9 = .ok (.invokevirtual 259, 3) := by decide +kernel
theorem dX12_either_12 : decode cX12_either 12 = .ok (.ifCond .eq 29, 3) := by decide +kernel
theorem dX12_either_15 : decode cX12_either 15 = .ok (.aload_n 0, 1) := by decide +kernel
theorem dX12_either_16 : decode cX12_either 16 = .ok (.invokevirtual 254, 3) := by decide +kernel
theorem dX12_either_19 : decode cX12_either 19 = .ok (.aload_n 0, 1) := by decide +kernel
theorem dX12_either_20 : decode cX12_either 20 = .ok (.invokevirtual 316, 3) := by decide +kernel
theorem dX12_either_23 : decode cX12_either 23 = .ok (.istore_n 2, 1) := by decide +kernel
theorem dX12_either_24 : decode cX12_either 24 = .ok (.iload_n 1, 1) := by decide +kernel
theorem dX12_either_25 : decode cX12_either 25 = .ok (.ifCond .ne 7, 3) := by decide +kernel
theorem dX12_either_28 : decode cX12_either 28 = .ok (.iload_n 2, 1) := by decide +kernel
theorem dX12_either_29 : decode cX12_either 29 = .ok (.ifCond .eq 7, 3) := by decide +kernel
theorem dX12_either_32 : decode cX12_either 32 = .ok (.iconst 1, 1) := by decide +kernel
theorem dX12_either_33 : decode cX12_either 33 = .ok (.goto 4, 3) := by decide +kernel
theorem dX12_either_36 : decode cX12_either 36 = .ok (.iconst 0, 1) := by decide +kernel
theorem dX12_either_37 : decode cX12_either 37 = .ok (.istore_n 1, 1) := by decide +kernel
theorem dX12_either_38 : decode cX12_either 38 = .ok (.goto (-33), 3) := by decide +kernel
theorem dX12_either_41 : decode cX12_either 41 = .ok (.iload_n 1, 1) := by decide +kernel
theorem dX12_either_42 : decode cX12_either 42 = .ok (.ireturn, 1) := by decide +kernel
theorem dX12_part_0 : decode cX12_part 0 = .ok (.aload_n 0, 1) := by decide +kernel
theorem dX12_part_1 : decode cX12_part 1 = .ok (.lload_n 1, 1) := by decide +kernel
theorem dX12_part_2 : decode cX12_part 2 = .ok (.invokevirtual 259, 3) := by decide +kernel
theorem dX12_part_5 : decode cX12_part 5 = .ok (.ifCond .ne 7, 3) := by decide +kernel
theorem dX12_part_8 : decode cX12_part 8 = .ok (.aload_n 0, 1) := by decide +kernel
theorem dX12_part_9 : decode cX12_part 9 = .ok (.invokevirtual 251, 3) := by decide +kernel
theorem dX12_part_12 : decode cX12_part 12 = .ok (.aload_n 0, 1) := by decide +kernel
theorem dX12_part_13 : decode cX12_part 13 = .ok (.getfield 241, 3) := by decide +kernel
theorem dX12_part_16 : decode cX12_part 16 = .ok (.ifCond .ne 7, 3) := by decide +kernel
theorem dX12_part_19 : decode cX12_part 19 = .ok (.aload_n 0, 1) := by decide +kernel
theorem dX12_part_20 : decode cX12_part 20 = .ok (.invokevirtual 254, 3) := by decide +kernel
theorem dX12_part_23 : decode cX12_part 23 = .ok (.aload_n 0, 1) := by decide +kernel
theorem dX12_part_24 : decode cX12_part 24 = .ok (.getfield 241, 3) := by decide +kernel
theorem dX12_part_27 : decode cX12_part 27 = .ok (.ifCond .eq 7, 3) := by decide +kernel
theorem dX12_part_30 : decode cX12_part 30 = .ok (.iconst 0, 1) := by decide +kernel
theorem dX12_part_31 : decode cX12_part 31 = .ok (.goto 7, 3) := by decide +kernel
theorem dX12_part_34 : decode cX12_part 34 = .ok (.aload_n 0, 1) := by decide +kernel
theorem dX12_part_35 : decode cX12_part 35 = .ok (.invokevirtual 293, 3) := by decide +kernel
theorem dX12_part_38 : decode cX12_part 38 = .ok (.istore_n 3, 1) := by decide +kernel
theorem dX12_part_39 : decode cX12_part 39 = .ok (.aload_n 0, 1) := by decide +kernel
theorem dX12_part_40 : decode cX12_part 40 = .ok (.bipush 59, 2) := by decide +kernel
theorem dX12_part_42 : decode cX12_part 42 = .ok (.invokevirtual 282, 3) := by decide +kernel
theorem dX12_part_45 : decode cX12_part 45 = .ok (.ifCond .ne 7, 3) := by decide +kernel
theorem dX12_part_48 : decode cX12_part 48 = .ok (.aload_n 0, 1) := by decide +kernel
theorem dX12_part_49 : decode cX12_part 49 = .ok (.invokevirtual 251, 3) := by decide +kernel
theorem dX12_part_52 : decode cX12_part 52 = .ok (.aload_n 0, 1) := by decide +kernel
theorem dX12_part_53 : decode cX12_part 53 = .ok (.getfield 241, 3) := by decide +kernel
theorem dX12_part_56 : decode cX12_part 56 = .ok (.ifCond .ne 7, 3) := by decide +kernel
theorem dX12_part_59 : decode cX12_part 59 = .ok (.aload_n 0, 1) := by decide +kernel
theorem dX12_part_60 : decode cX12_part 60 = .ok (.invokevirtual 254, 3) := by decide +kernel
theorem dX12_part_63 : decode cX12_part 63 = .ok (.iload_n 3, 1) := by decide +kernel
theorem dX12_part_64 : decode cX12_part 64 = .ok (.ireturn, 1) := by decide +kernel
theorem dX12_read_0 : decode cX12_read 0 = .ok (.aload_n 0, 1) := by decide +kernel
theorem dX12_read_1 : decode cX12_read 1 = .ok (.iload_n 2, 1) := by decide +kernel
theorem dX12_read_2 : decode cX12_read 2 = .ok (.putfield 263, 3) := by decide +kernel
theorem dX12_read_5 : decode cX12_read 5 = .ok (.aload_n 0, 1) := by decide +kernel
theorem dX12_read_6 : decode cX12_read 6 = .ok (.iload_n 3, 1) := by decide +kernel
theorem dX12_read_7 : decode cX12_read 7 = .ok (.putfield 268, 3) := by decide +kernel
theorem dX12_read_10 : decode cX12_read 10 = .ok (.aload_n 0, 1) := by decide +kernel
theorem dX12_read_11 : decode cX12_read 11 = .ok (.iload 4, 2) := by decide +kernel
theorem dX12_read_13 : decode cX12_read 13 = .ok (.putfield 273, 3) := by decide +kernel
theorem dX12_read_16 : decode cX12_read 16 = .ok (.aload_n 0, 1) := by decide +kernel
theorem dX12_read_17 : decode cX12_read 17 = .ok (.sipush 160, 3) := by decide +kernel
theorem dX12_read_20 : decode cX12_read 20 = .ok (.iload_n 1, 1) := by decide +kernel
theorem dX12_read_21 : decode cX12_read 21 = .ok (.imul, 1) := by decide +kernel
theorem dX12_read_22 : decode cX12_read 22 = .ok (.putfield 212, 3) := by decide +kernel
theorem dX12_read_25 : decode cX12_read 25 = .ok (.aload_n 0, 1) := by decide +kernel
theorem dX12_read_26 : decode cX12_read 26 = .ok (.aload_n 0, 1) := by decide +kernel
theorem dX12_read_27 : decode cX12_read 27 = .ok (.getfield 67, 3) := by decide +kernel
theorem dX12_read_30 : decode cX12_read 30 = .ok (.iload_n 1, 1) := by decide +kernel
theorem dX12_read_31 : decode cX12_read 31 = .ok (.iaload, 1) := by decide +kernel
theorem dX12_read_32 : decode cX12_read 32 = .ok (.putfield 209, 3) := by decide +kernel
theorem dX12_read_35 : decode cX12_read 35 = .ok (.aload_n 0, 1) := by decide +kernel
theorem dX12_read_36 : decode cX12_read 36 = .ok (.iconst 0, 1) := by decide +kernel
theorem dX12_read_37 : decode cX12_read 37 = .ok (.putfield 215, 3) := by decide +kernel
theorem dX12_read_40 : decode cX12_read 40 = .ok (.aload_n 0, 1) := by decide +kernel
theorem dX12_read_41 : decode cX12_read 41 = .ok (.iconst 0, 1) := by decide +kernel
theorem dX12_read_42 : decode cX12_read 42 = .ok (.putfield 248, 3) := by decide +kernel
theorem dX12_read_45 : decode cX12_read 45 = .ok (.aload_n 0, 1) := by decide +kernel
theorem dX12_read_46 : decode cX12_read 46 = .ok (.iconst 0, 1) := by decide +kernel
theorem dX12_read_47 : decode cX12_read 47 = .ok (.putfield 241, 3) := by decide +kernel
theorem dX12_read_50 : decode cX12_read 50 = .ok (.aload_n 0, 1) := by decide +kernel
theorem dX12_read_51 : decode cX12_read 51 = .ok (.invokevirtual 254, 3) := by decide +kernel
theorem dX12_read_54 : decode cX12_read 54 = .ok (.aload_n 0, 1) := by decide +kernel
theorem dX12_read_55 : decode cX12_read 55 = .ok (.ldc2_w 321, 3) := by decide +kernel
theorem dX12_read_58 : decode cX12_read 58 = .ok (.invokevirtual 323, 3) := by decide +kernel
theorem dX12_read_61 : decode cX12_read 61 = .ok (.istore 6, 2) := by decide +kernel
theorem dX12_read_63 : decode cX12_read 63 = .ok (.aload_n 0, 1) := by decide +kernel
theorem dX12_read_64 : decode cX12_read 64 = .ok (.getfield 241, 3) := by decide +kernel
theorem dX12_read_67 : decode cX12_read 67 = .ok (.ifCond .eq 7, 3) := by decide +kernel
theorem dX12_read_70 : decode cX12_read 70 = .ok (.iconst 0, 1) := by decide +kernel
theorem dX12_read_71 : decode cX12_read 71 = .ok (.goto 10, 3) := by decide +kernel
theorem dX12_read_74 : decode cX12_read 74 = .ok (.aload_n 0, 1) := by decide +kernel
theorem dX12_read_75 : decode cX12_read 75 = .ok (.ldc2_w 327, 3) := by decide +kernel
theorem dX12_read_78 : decode cX12_read 78 = .ok (.invokevirtual 323, 3) := by decide +kernel
theorem dX12_read_81 : decode cX12_read 81 = .ok (.istore 7, 2) := by decide +kernel
theorem dX12_read_83 : decode cX12_read 83 = .ok (.aload_n 0, 1) := by decide +kernel
theorem dX12_read_84 : decode cX12_read 84 = .ok (.getfield 241, 3) := by decide +kernel
theorem dX12_read_87 : decode cX12_read 87 = .ok (.ifCond .ne 14, 3) := by decide +kernel
theorem dX12_read_90 : decode cX12_read 90 = .ok (.aload_n 0, 1) := by decide +kernel
theorem dX12_read_91 : decode cX12_read 91 = .ok (.getfield 224, 3) := by decide +kernel
theorem dX12_read_94 : decode cX12_read 94 = .ok (.ifCond .eq 7, 3) := by decide +kernel
theorem dX12_read_97 : decode cX12_read 97 = .ok (.aload_n 0, 1) := by decide +kernel
theorem dX12_read_98 : decode cX12_read 98 = .ok (.invokevirtual 251, 3) := by decide +kernel
theorem dX12_read_101 : decode cX12_read 101 = .ok (.iload 5, 2) := by decide +kernel
theorem dX12_read_103 : decode cX12_read 103 = .ok (.ifCond .ne 8, 3) := by decide +kernel
theorem dX12_read_106 : decode cX12_read 106 = .ok (.iload 6, 2) := by decide +kernel
theorem dX12_read_108 : decode cX12_read 108 = .ok (.goto 5, 3) := by decide +kernel
theorem dX12_read_111 : decode cX12_read 111 = .ok (.iload 7, 2) := by decide +kernel
theorem dX12_read_113 : decode cX12_read 113 = .ok (.ireturn, 1) := by decide +kernel
theorem dX12_text_0 : decode cX12_text 0 = .ok (.aload_n 0, 1) := by decide +kernel
theorem dX12_text_1 : decode cX12_text 1 = .ok (.getfield 137, 3) := by decide +kernel
theorem dX12_text_4 : decode cX12_text 4 = .ok (.bipush 6, 2) := by decide +kernel
theorem dX12_text_6 : decode cX12_text 6 = .ok (.if_icmp .ne 6, 3) := by decide +kernel
theorem dX12_text_9 : decode cX12_text 9 = .ok (.bipush (-4), 2) := by decide +kernel
theorem dX12_text_11 : decode cX12_text 11 = .ok (.ireturn, 1) := by decide +kernel
theorem dX12_text_12 : decode cX12_text 12 = .ok (.iconst 0, 1) := by decide +kernel
theorem dX12_text_13 : decode cX12_text 13 = .ok (.istore_n 1, 1) := by decide +kernel
theorem dX12_text_14 : decode cX12_text 14 = .ok (.iload_n 1, 1) := by decide +kernel
theorem dX12_text_15 : decode cX12_text 15 = .ok (.aload_n 0, 1) := by decide +kernel
theorem dX12_text_16 : decode cX12_text 16 = .ok (.getfield 206, 3) := by decide +kernel
theorem dX12_text_19 : decode cX12_text 19 = .ok (.if_icmp .ge 30, 3) := by decide +kernel
theorem dX12_text_22 : decode cX12_text 22 = .ok (.aload_n 0, 1) := by decide +kernel
theorem dX12_text_23 : decode cX12_text 23 = .ok (.getfield 64, 3) := by decide +kernel
theorem dX12_text_26 : decode cX12_text 26 = .ok (.sipush 160, 3) := by decide +kernel
theorem dX12_text_29 : decode cX12_text 29 = .ok (.aload_n 0, 1) := by decide +kernel
theorem dX12_text_30 : decode cX12_text 30 = .ok (.getfield 137, 3) := by decide +kernel
theorem dX12_text_33 : decode cX12_text 33 = .ok (.imul, 1) := by decide +kernel
theorem dX12_text_34 : decode cX12_text 34 = .ok (.iload_n 1, 1) := by decide +kernel
theorem dX12_text_35 : decode cX12_text 35 = .ok (.iadd, 1) := by decide +kernel
theorem dX12_text_36 : decode cX12_text 36 = .ok (.aload_n 0, 1) := by decide +kernel
theorem dX12_text_37 : decode cX12_text 37 = .ok (.getfield 70, 3) := by decide +kernel
theorem dX12_text_40 : decode cX12_text 40 = .ok (.iload_n 1, 1) := by decide +kernel
theorem dX12_text_41 : decode cX12_text 41 = .ok (.iaload, 1) := by decide +kernel
theorem dX12_text_42 : decode cX12_text 42 = .ok (.iastore, 1) := by decide +kernel
theorem dX12_text_43 : decode cX12_text 43 = .ok (.iinc 1 1, 3) := by decide +kernel
theorem dX12_text_46 : decode cX12_text 46 = .ok (.goto (-32), 3) := by decide +kernel
theorem dX12_text_49 : decode cX12_text 49 = .ok (.aload_n 0, 1) := by decide +kernel
theorem dX12_text_50 : decode cX12_text 50 = .ok (.getfield 67, 3) := by decide +kernel
theorem dX12_text_53 : decode cX12_text 53 = .ok (.aload_n 0, 1) := by decide +kernel
theorem dX12_text_54 : decode cX12_text 54 = .ok (.getfield 137, 3) := by decide +kernel
theorem dX12_text_57 : decode cX12_text 57 = .ok (.aload_n 0, 1) := by decide +kernel
theorem dX12_text_58 : decode cX12_text 58 = .ok (.getfield 206, 3) := by decide +kernel
theorem dX12_text_61 : decode cX12_text 61 = .ok (.iastore, 1) := by decide +kernel
theorem dX12_text_62 : decode cX12_text 62 = .ok (.aload_n 0, 1) := by decide +kernel
theorem dX12_text_63 : decode cX12_text 63 = .ok (.iconst 0, 1) := by decide +kernel
theorem dX12_text_64 : decode cX12_text 64 = .ok (.putfield 206, 3) := by decide +kernel
theorem dX12_text_67 : decode cX12_text 67 = .ok (.aload_n 0, 1) := by decide +kernel
theorem dX12_text_68 : decode cX12_text 68 = .ok (.aload_n 0, 1) := by decide +kernel
theorem dX12_text_69 : decode cX12_text 69 = .ok (.getfield 137, 3) := by decide +kernel
theorem dX12_text_72 : decode cX12_text 72 = .ok (.iconst 0, 1) := by decide +kernel
theorem dX12_text_73 : decode cX12_text 73 = .ok (.iconst 1, 1) := by decide +kernel
theorem dX12_text_74 : decode cX12_text 74 = .ok (.iconst 0, 1) := by decide +kernel
theorem dX12_text_75 : decode cX12_text 75 = .ok (.iconst 0, 1) := by decide +kernel
theorem dX12_text_76 : decode cX12_text 76 = .ok (.invokevirtual 329, 3) := by decide +kernel
theorem dX12_text_79 : decode cX12_text 79 = .ok (.istore_n 1, 1) := by decide +kernel
theorem dX12_text_80 : decode cX12_text 80 = .ok (.aload_n 0, 1) := by decide +kernel
theorem dX12_text_81 : decode cX12_text 81 = .ok (.getfield 241, 3) := by decide +kernel
theorem dX12_text_84 : decode cX12_text 84 = .ok (.ifCond .eq 11, 3) := by decide +kernel
theorem dX12_text_87 : decode cX12_text 87 = .ok (.bipush (-100), 2) := by decide +kernel
theorem dX12_text_89 : decode cX12_text 89 = .ok (.aload_n 0, 1) := by decide +kernel
theorem dX12_text_90 : decode cX12_text 90 = .ok (.getfield 245, 3) := by decide +kernel
theorem dX12_text_93 : decode cX12_text 93 = .ok (.isub, 1) := by decide +kernel
theorem dX12_text_94 : decode cX12_text 94 = .ok (.ireturn, 1) := by decide +kernel
theorem dX12_text_95 : decode cX12_text 95 = .ok (.aload_n 0, 1) := by decide +kernel
theorem dX12_text_96 : decode cX12_text 96 = .ok (.dup, 1) := by decide +kernel
theorem dX12_text_97 : decode cX12_text 97 = .ok (.getfield 137, 3) := by decide +kernel
theorem dX12_text_100 : decode cX12_text 100 = .ok (.iconst 1, 1) := by decide +kernel
theorem dX12_text_101 : decode cX12_text 101 = .ok (.iadd, 1) := by decide +kernel
theorem dX12_text_102 : decode cX12_text 102 = .ok (.putfield 137, 3) := by decide +kernel
theorem dX12_text_105 : decode cX12_text 105 = .ok (.aload_n 0, 1) := by decide +kernel
theorem dX12_text_106 : decode cX12_text 106 = .ok (.getfield 137, 3) := by decide +kernel
theorem dX12_text_109 : decode cX12_text 109 = .ok (.iconst 1, 1) := by decide +kernel
theorem dX12_text_110 : decode cX12_text 110 = .ok (.isub, 1) := by decide +kernel
theorem dX12_text_111 : decode cX12_text 111 = .ok (.ireturn, 1) := by decide +kernel
theorem dX12_law_0 : decode cX12_law 0 = .ok (.aload_n 0, 1) := by decide +kernel
theorem dX12_law_1 : decode cX12_law 1 = .ok (.iload_n 1, 1) := by decide +kernel
theorem dX12_law_2 : decode cX12_law 2 = .ok (.iload_n 2, 1) := by decide +kernel
theorem dX12_law_3 : decode cX12_law 3 = .ok (.invokevirtual 172, 3) := by decide +kernel
theorem dX12_law_6 : decode cX12_law 6 = .ok (.ifCond .eq 17, 3) := by decide +kernel
theorem dX12_law_9 : decode cX12_law 9 = .ok (.iload_n 3, 1) := by decide +kernel
theorem dX12_law_10 : decode cX12_law 10 = .ok (.iconst 0, 1) := by decide +kernel
theorem dX12_law_11 : decode cX12_law 11 = .ok (.aload_n 0, 1) := by decide +kernel
theorem dX12_law_12 : decode cX12_law 12 = .ok (.getfield 137, 3) := by decide +kernel
theorem dX12_law_15 : decode cX12_law 15 = .ok (.iconst 1, 1) := by decide +kernel
theorem dX12_law_16 : decode cX12_law 16 = .ok (.isub, 1) := by decide +kernel
theorem dX12_law_17 : decode cX12_law 17 = .ok (.invokestatic 148, 3) := by decide +kernel
theorem dX12_law_20 : decode cX12_law 20 = .ok (.ifCond .ne 6, 3) := by decide +kernel
theorem dX12_law_23 : decode cX12_law 23 = .ok (.bipush (-2), 2) := by decide +kernel
theorem dX12_law_25 : decode cX12_law 25 = .ok (.ireturn, 1) := by decide +kernel
theorem dX12_law_26 : decode cX12_law 26 = .ok (.aload_n 0, 1) := by decide +kernel
theorem dX12_law_27 : decode cX12_law 27 = .ok (.getfield 333, 3) := by decide +kernel
theorem dX12_law_30 : decode cX12_law 30 = .ok (.bipush 20, 2) := by decide +kernel
theorem dX12_law_32 : decode cX12_law 32 = .ok (.if_icmp .ne 6, 3) := by decide +kernel
theorem dX12_law_35 : decode cX12_law 35 = .ok (.bipush (-4), 2) := by decide +kernel
theorem dX12_law_37 : decode cX12_law 37 = .ok (.ireturn, 1) := by decide +kernel
theorem dX12_law_38 : decode cX12_law 38 = .ok (.aload_n 0, 1) := by decide +kernel
theorem dX12_law_39 : decode cX12_law 39 = .ok (.getfield 73, 3) := by decide +kernel
theorem dX12_law_42 : decode cX12_law 42 = .ok (.aload_n 0, 1) := by decide +kernel
theorem dX12_law_43 : decode cX12_law 43 = .ok (.getfield 333, 3) := by decide +kernel
theorem dX12_law_46 : decode cX12_law 46 = .ok (.iload_n 1, 1) := by decide +kernel
theorem dX12_law_47 : decode cX12_law 47 = .ok (.iastore, 1) := by decide +kernel
theorem dX12_law_48 : decode cX12_law 48 = .ok (.aload_n 0, 1) := by decide +kernel
theorem dX12_law_49 : decode cX12_law 49 = .ok (.getfield 76, 3) := by decide +kernel
theorem dX12_law_52 : decode cX12_law 52 = .ok (.aload_n 0, 1) := by decide +kernel
theorem dX12_law_53 : decode cX12_law 53 = .ok (.getfield 333, 3) := by decide +kernel
theorem dX12_law_56 : decode cX12_law 56 = .ok (.iload_n 2, 1) := by decide +kernel
theorem dX12_law_57 : decode cX12_law 57 = .ok (.iastore, 1) := by decide +kernel
theorem dX12_law_58 : decode cX12_law 58 = .ok (.aload_n 0, 1) := by decide +kernel
theorem dX12_law_59 : decode cX12_law 59 = .ok (.getfield 79, 3) := by decide +kernel
theorem dX12_law_62 : decode cX12_law 62 = .ok (.aload_n 0, 1) := by decide +kernel
theorem dX12_law_63 : decode cX12_law 63 = .ok (.getfield 333, 3) := by decide +kernel
theorem dX12_law_66 : decode cX12_law 66 = .ok (.iload_n 3, 1) := by decide +kernel
theorem dX12_law_67 : decode cX12_law 67 = .ok (.iastore, 1) := by decide +kernel
theorem dX12_law_68 : decode cX12_law 68 = .ok (.aload_n 0, 1) := by decide +kernel
theorem dX12_law_69 : decode cX12_law 69 = .ok (.dup, 1) := by decide +kernel
theorem dX12_law_70 : decode cX12_law 70 = .ok (.getfield 333, 3) := by decide +kernel
theorem dX12_law_73 : decode cX12_law 73 = .ok (.iconst 1, 1) := by decide +kernel
theorem dX12_law_74 : decode cX12_law 74 = .ok (.iadd, 1) := by decide +kernel
theorem dX12_law_75 : decode cX12_law 75 = .ok (.putfield 333, 3) := by decide +kernel
theorem dX12_law_78 : decode cX12_law 78 = .ok (.aload_n 0, 1) := by decide +kernel
theorem dX12_law_79 : decode cX12_law 79 = .ok (.getfield 333, 3) := by decide +kernel
theorem dX12_law_82 : decode cX12_law 82 = .ok (.iconst 1, 1) := by decide +kernel
theorem dX12_law_83 : decode cX12_law 83 = .ok (.isub, 1) := by decide +kernel
theorem dX12_law_84 : decode cX12_law 84 = .ok (.ireturn, 1) := by decide +kernel
theorem dX12_theLaw_0 : decode cX12_theLaw 0 = .ok (.iconst (-1), 1) := by decide +kernel
theorem dX12_theLaw_1 : decode cX12_theLaw 1 = .ok (.istore_n 3, 1) := by decide +kernel
theorem dX12_theLaw_2 : decode cX12_theLaw 2 = .ok (.iconst 0, 1) := by decide +kernel
theorem dX12_theLaw_3 : decode cX12_theLaw 3 = .ok (.istore 4, 2) := by decide +kernel
theorem dX12_theLaw_5 : decode cX12_theLaw 5 = .ok (.iload 4, 2) := by decide +kernel
theorem dX12_theLaw_7 : decode cX12_theLaw 7 = .ok (.aload_n 0, 1) := by decide +kernel
theorem dX12_theLaw_8 : decode cX12_theLaw 8 = .ok (.getfield 333, 3) := by decide +kernel
theorem dX12_theLaw_11 : decode cX12_theLaw 11 = .ok (.if_icmp .ge 55, 3) := by decide +kernel
theorem dX12_theLaw_14 : decode cX12_theLaw 14 = .ok (.aload_n 0, 1) := by decide +kernel
theorem dX12_theLaw_15 : decode cX12_theLaw 15 = .ok (.getfield 73, 3) := by decide +kernel
theorem dX12_theLaw_18 : decode cX12_theLaw 18 = .ok (.iload 4, 2) := by decide +kernel
theorem dX12_theLaw_20 : decode cX12_theLaw 20 = .ok (.iaload, 1) := by decide +kernel
theorem dX12_theLaw_21 : decode cX12_theLaw 21 = .ok (.iload_n 1, 1) := by decide +kernel
theorem dX12_theLaw_22 : decode cX12_theLaw 22 = .ok (.if_icmp .ne 38, 3) := by decide +kernel
theorem dX12_theLaw_25 : decode cX12_theLaw 25 = .ok (.aload_n 0, 1) := by decide +kernel
theorem dX12_theLaw_26 : decode cX12_theLaw 26 = .ok (.getfield 76, 3) := by decide +kernel
theorem dX12_theLaw_29 : decode cX12_theLaw 29 = .ok (.iload 4, 2) := by decide +kernel
theorem dX12_theLaw_31 : decode cX12_theLaw 31 = .ok (.iaload, 1) := by decide +kernel
theorem dX12_theLaw_32 : decode cX12_theLaw 32 = .ok (.iload_n 2, 1) := by decide +kernel
theorem dX12_theLaw_33 : decode cX12_theLaw 33 = .ok (.if_icmp .gt 27, 3) := by decide +kernel
theorem dX12_theLaw_36 : decode cX12_theLaw 36 = .ok (.iload_n 3, 1) := by decide +kernel
theorem dX12_theLaw_37 : decode cX12_theLaw 37 = .ok (.iconst (-1), 1) := by decide +kernel
theorem dX12_theLaw_38 : decode cX12_theLaw 38 = .ok (.if_icmp .eq 19, 3) := by decide +kernel
theorem dX12_theLaw_41 : decode cX12_theLaw 41 = .ok (.aload_n 0, 1) := by decide +kernel
theorem dX12_theLaw_42 : decode cX12_theLaw 42 = .ok (.getfield 76, 3) := by decide +kernel
theorem dX12_theLaw_45 : decode cX12_theLaw 45 = .ok (.iload 4, 2) := by decide +kernel
theorem dX12_theLaw_47 : decode cX12_theLaw 47 = .ok (.iaload, 1) := by decide +kernel
theorem dX12_theLaw_48 : decode cX12_theLaw 48 = .ok (.aload_n 0, 1) := by decide +kernel
theorem dX12_theLaw_49 : decode cX12_theLaw 49 = .ok (.getfield 76, 3) := by decide +kernel
theorem dX12_theLaw_52 : decode cX12_theLaw 52 = .ok (.iload_n 3, 1) := by decide +kernel
theorem dX12_theLaw_53 : decode cX12_theLaw 53 = .ok (.iaload, 1) := by decide +kernel
theorem dX12_theLaw_54 : decode cX12_theLaw 54 = .ok (.if_icmp .lt 6, 3) := by decide +kernel
theorem dX12_theLaw_57 : decode cX12_theLaw 57 = .ok (.iload 4, 2) := by decide +kernel
theorem dX12_theLaw_59 : decode cX12_theLaw 59 = .ok (.istore_n 3, 1) := by decide +kernel
theorem dX12_theLaw_60 : decode cX12_theLaw 60 = .ok (.iinc 4 1, 3) := by decide +kernel
theorem dX12_theLaw_63 : decode cX12_theLaw 63 = .ok (.goto (-58), 3) := by decide +kernel
theorem dX12_theLaw_66 : decode cX12_theLaw 66 = .ok (.iload_n 3, 1) := by decide +kernel
theorem dX12_theLaw_67 : decode cX12_theLaw 67 = .ok (.iconst (-1), 1) := by decide +kernel
theorem dX12_theLaw_68 : decode cX12_theLaw 68 = .ok (.if_icmp .ne 7, 3) := by decide +kernel
theorem dX12_theLaw_71 : decode cX12_theLaw 71 = .ok (.iconst 0, 1) := by decide +kernel
theorem dX12_theLaw_72 : decode cX12_theLaw 72 = .ok (.goto 9, 3) := by decide +kernel
theorem dX12_theLaw_75 : decode cX12_theLaw 75 = .ok (.aload_n 0, 1) := by decide +kernel
theorem dX12_theLaw_76 : decode cX12_theLaw 76 = .ok (.getfield 79, 3) := by decide +kernel
theorem dX12_theLaw_79 : decode cX12_theLaw 79 = .ok (.iload_n 3, 1) := by decide +kernel
theorem dX12_theLaw_80 : decode cX12_theLaw 80 = .ok (.iaload, 1) := by decide +kernel
theorem dX12_theLaw_81 : decode cX12_theLaw 81 = .ok (.ireturn, 1) := by decide +kernel
theorem dX12_lawOf_0 : decode cX12_lawOf 0 = .ok (.aload_n 0, 1) := by decide +kernel
theorem dX12_lawOf_1 : decode cX12_lawOf 1 = .ok (.iload_n 1, 1) := by decide +kernel
theorem dX12_lawOf_2 : decode cX12_lawOf 2 = .ok (.iload_n 2, 1) := by decide +kernel
theorem dX12_lawOf_3 : decode cX12_lawOf 3 = .ok (.invokevirtual 172, 3) := by decide +kernel
theorem dX12_lawOf_6 : decode cX12_lawOf 6 = .ok (.ifCond .eq 12, 3) := by decide +kernel
theorem dX12_lawOf_9 : decode cX12_lawOf 9 = .ok (.aload_n 0, 1) := by decide +kernel
theorem dX12_lawOf_10 : decode cX12_lawOf 10 = .ok (.iload_n 1, 1) := by decide +kernel
theorem dX12_lawOf_11 : decode cX12_lawOf 11 = .ok (.iload_n 2, 1) := by decide +kernel
theorem dX12_lawOf_12 : decode cX12_lawOf 12 = .ok (.invokevirtual 336, 3) := by decide +kernel
theorem dX12_lawOf_15 : decode cX12_lawOf 15 = .ok (.goto 5, 3) := by decide +kernel
theorem dX12_lawOf_18 : decode cX12_lawOf 18 = .ok (.bipush (-2), 2) := by decide +kernel
theorem dX12_lawOf_20 : decode cX12_lawOf 20 = .ok (.ireturn, 1) := by decide +kernel
theorem dX12_says_0 : decode cX12_says 0 = .ok (.iload_n 1, 1) := by decide +kernel
theorem dX12_says_1 : decode cX12_says 1 = .ok (.invokestatic 152, 3) := by decide +kernel
theorem dX12_says_4 : decode cX12_says 4 = .ok (.ifCond .eq 39, 3) := by decide +kernel
theorem dX12_says_7 : decode cX12_says 7 = .ok (.iload_n 2, 1) := by decide +kernel
theorem dX12_says_8 : decode cX12_says 8 = .ok (.invokestatic 152, 3) := by decide +kernel
theorem dX12_says_11 : decode cX12_says 11 = .ok (.ifCond .eq 32, 3) := by decide +kernel
theorem dX12_says_14 : decode cX12_says 14 = .ok (.iload_n 1, 1) := by decide +kernel
theorem dX12_says_15 : decode cX12_says 15 = .ok (.iload_n 2, 1) := by decide +kernel
theorem dX12_says_16 : decode cX12_says 16 = .ok (.if_icmp .eq 27, 3) := by decide +kernel
theorem dX12_says_19 : decode cX12_says 19 = .ok (.iload_n 3, 1) := by decide +kernel
theorem dX12_says_20 : decode cX12_says 20 = .ok (.iconst 0, 1) := by decide +kernel
theorem dX12_says_21 : decode cX12_says 21 = .ok (.aload_n 0, 1) := by decide +kernel
theorem dX12_says_22 : decode cX12_says 22 = .ok (.getfield 124, 3) := by decide +kernel
theorem dX12_says_25 : decode cX12_says 25 = .ok (.iconst 2, 1) := by decide +kernel
theorem dX12_says_26 : decode cX12_says 26 = .ok (.isub, 1) := by decide +kernel
theorem dX12_says_27 : decode cX12_says 27 = .ok (.invokestatic 148, 3) := by decide +kernel
theorem dX12_says_30 : decode cX12_says 30 = .ok (.ifCond .eq 13, 3) := by decide +kernel
theorem dX12_says_33 : decode cX12_says 33 = .ok (.iload 4, 2) := by decide +kernel
theorem dX12_says_35 : decode cX12_says 35 = .ok (.iconst 0, 1) := by decide +kernel
theorem dX12_says_36 : decode cX12_says 36 = .ok (.iconst 1, 1) := by decide +kernel
theorem dX12_says_37 : decode cX12_says 37 = .ok (.invokestatic 148, 3) := by decide +kernel
theorem dX12_says_40 : decode cX12_says 40 = .ok (.ifCond .ne 7, 3) := by decide +kernel
theorem dX12_says_43 : decode cX12_says 43 = .ok (.ldc2_w 196, 3) := by decide +kernel
theorem dX12_says_46 : decode cX12_says 46 = .ok (.lreturn, 1) := by decide +kernel
theorem dX12_says_47 : decode cX12_says 47 = .ok (.aload_n 0, 1) := by decide +kernel
theorem dX12_says_48 : decode cX12_says 48 = .ok (.aload_n 0, 1) := by decide +kernel
theorem dX12_says_49 : decode cX12_says 49 = .ok (.iload_n 1, 1) := by decide +kernel
theorem dX12_says_50 : decode cX12_says 50 = .ok (.iload_n 3, 1) := by decide +kernel
theorem dX12_says_51 : decode cX12_says 51 = .ok (.invokevirtual 336, 3) := by decide +kernel
theorem dX12_says_54 : decode cX12_says 54 = .ok (.iload_n 1, 1) := by decide +kernel
theorem dX12_says_55 : decode cX12_says 55 = .ok (.iload_n 2, 1) := by decide +kernel
theorem dX12_says_56 : decode cX12_says 56 = .ok (.iload_n 3, 1) := by decide +kernel
theorem dX12_says_57 : decode cX12_says 57 = .ok (.iload 4, 2) := by decide +kernel
theorem dX12_says_59 : decode cX12_says 59 = .ok (.invokevirtual 329, 3) := by decide +kernel
theorem dX12_says_62 : decode cX12_says 62 = .ok (.i2l, 1) := by decide +kernel
theorem dX12_says_63 : decode cX12_says 63 = .ok (.lreturn, 1) := by decide +kernel
theorem dX12_judgeSteps_0 : decode cX12_judgeSteps 0 = .ok (.iconst 0, 1) := by decide +kernel
theorem dX12_judgeSteps_1 : decode cX12_judgeSteps 1 = .ok (.istore_n 1, 1) := by decide +kernel
theorem dX12_judgeSteps_2 : decode cX12_judgeSteps 2 = .ok (.iload_n 1, 1) := by decide +kernel
theorem dX12_judgeSteps_3 : decode cX12_judgeSteps 3 = .ok (.aload_n 0, 1) := by decide +kernel
end
section
theorem dX12_judgeSteps_4 : decode cX12_judgeSteps 4 = .ok (.getfield 124, 3) := by decide +kernel
theorem dX12_judgeSteps_7 : decode cX12_judgeSteps 7 = .ok (.iconst 1, 1) := by decide +kernel
theorem dX12_judgeSteps_8 : decode cX12_judgeSteps 8 = .ok (.isub, 1) := by decide +kernel
theorem dX12_judgeSteps_9 : decode cX12_judgeSteps 9 = .ok (.if_icmp .ge 119, 3) := by decide +kernel
theorem dX12_judgeSteps_12 : decode cX12_judgeSteps 12 = .ok (.iconst 0, 1) := by decide +kernel
theorem dX12_judgeSteps_13 : decode cX12_judgeSteps 13 = .ok (.istore_n 2, 1) := by decide +kernel
theorem dX12_judgeSteps_14 : decode cX12_judgeSteps 14 = .ok (.iload_n 2, 1) := by decide +kernel
theorem dX12_judgeSteps_15 : decode cX12_judgeSteps 15 = .ok (.iconst 5, 1) := by decide +kernel
theorem dX12_judgeSteps_16 : decode cX12_judgeSteps 16 = .ok (.if_icmp .ge 106, 3) := by decide +kernel
theorem dX12_judgeSteps_19 : decode cX12_judgeSteps 19 = .ok (.aload_n 0, 1) := by decide +kernel
theorem dX12_judgeSteps_20 : decode cX12_judgeSteps 20 = .ok (.iload_n 2, 1) := by decide +kernel
theorem dX12_judgeSteps_21 : decode cX12_judgeSteps 21 = .ok (.iload_n 1, 1) := by decide +kernel
theorem dX12_judgeSteps_22 : decode cX12_judgeSteps 22 = .ok (.invokevirtual 336, 3) := by decide +kernel
theorem dX12_judgeSteps_25 : decode cX12_judgeSteps 25 = .ok (.istore_n 3, 1) := by decide +kernel
theorem dX12_judgeSteps_26 : decode cX12_judgeSteps 26 = .ok (.iconst 0, 1) := by decide +kernel
theorem dX12_judgeSteps_27 : decode cX12_judgeSteps 27 = .ok (.istore 4, 2) := by decide +kernel
theorem dX12_judgeSteps_29 : decode cX12_judgeSteps 29 = .ok (.iload 4, 2) := by decide +kernel
theorem dX12_judgeSteps_31 : decode cX12_judgeSteps 31 = .ok (.iconst 5, 1) := by decide +kernel
theorem dX12_judgeSteps_32 : decode cX12_judgeSteps 32 = .ok (.if_icmp .ge 84, 3) := by decide +kernel
theorem dX12_judgeSteps_35 : decode cX12_judgeSteps 35 = .ok (.bipush 25, 2) := by decide +kernel
theorem dX12_judgeSteps_37 : decode cX12_judgeSteps 37 = .ok (.iload_n 1, 1) := by decide +kernel
theorem dX12_judgeSteps_38 : decode cX12_judgeSteps 38 = .ok (.imul, 1) := by decide +kernel
theorem dX12_judgeSteps_39 : decode cX12_judgeSteps 39 = .ok (.iconst 5, 1) := by decide +kernel
theorem dX12_judgeSteps_40 : decode cX12_judgeSteps 40 = .ok (.iload_n 2, 1) := by decide +kernel
theorem dX12_judgeSteps_41 : decode cX12_judgeSteps 41 = .ok (.imul, 1) := by decide +kernel
theorem dX12_judgeSteps_42 : decode cX12_judgeSteps 42 = .ok (.iadd, 1) := by decide +kernel
theorem dX12_judgeSteps_43 : decode cX12_judgeSteps 43 = .ok (.iload 4, 2) := by decide +kernel
theorem dX12_judgeSteps_45 : decode cX12_judgeSteps 45 = .ok (.iadd, 1) := by decide +kernel
theorem dX12_judgeSteps_46 : decode cX12_judgeSteps 46 = .ok (.istore 5, 2) := by decide +kernel
theorem dX12_judgeSteps_48 : decode cX12_judgeSteps 48 = .ok (.aload_n 0, 1) := by decide +kernel
theorem dX12_judgeSteps_49 : decode cX12_judgeSteps 49 = .ok (.getfield 82, 3) := by decide +kernel
theorem dX12_judgeSteps_52 : decode cX12_judgeSteps 52 = .ok (.iload 5, 2) := by decide +kernel
theorem dX12_judgeSteps_54 : decode cX12_judgeSteps 54 = .ok (.iload_n 2, 1) := by decide +kernel
theorem dX12_judgeSteps_55 : decode cX12_judgeSteps 55 = .ok (.iload 4, 2) := by decide +kernel
theorem dX12_judgeSteps_57 : decode cX12_judgeSteps 57 = .ok (.if_icmp .eq 51, 3) := by decide +kernel
theorem dX12_judgeSteps_60 : decode cX12_judgeSteps 60 = .ok (.aload_n 0, 1) := by decide +kernel
theorem dX12_judgeSteps_61 : decode cX12_judgeSteps 61 = .ok (.getfield 48, 3) := by decide +kernel
theorem dX12_judgeSteps_64 : decode cX12_judgeSteps 64 = .ok (.iload 5, 2) := by decide +kernel
theorem dX12_judgeSteps_66 : decode cX12_judgeSteps 66 = .ok (.baload, 1) := by decide +kernel
theorem dX12_judgeSteps_67 : decode cX12_judgeSteps 67 = .ok (.ifCond .eq 41, 3) := by decide +kernel
theorem dX12_judgeSteps_70 : decode cX12_judgeSteps 70 = .ok (.aload_n 0, 1) := by decide +kernel
theorem dX12_judgeSteps_71 : decode cX12_judgeSteps 71 = .ok (.iload_n 3, 1) := by decide +kernel
theorem dX12_judgeSteps_72 : decode cX12_judgeSteps 72 = .ok (.iload_n 2, 1) := by decide +kernel
theorem dX12_judgeSteps_73 : decode cX12_judgeSteps 73 = .ok (.iload 4, 2) := by decide +kernel
theorem dX12_judgeSteps_75 : decode cX12_judgeSteps 75 = .ok (.iload_n 1, 1) := by decide +kernel
theorem dX12_judgeSteps_76 : decode cX12_judgeSteps 76 = .ok (.iconst 0, 1) := by decide +kernel
theorem dX12_judgeSteps_77 : decode cX12_judgeSteps 77 = .ok (.invokevirtual 329, 3) := by decide +kernel
theorem dX12_judgeSteps_80 : decode cX12_judgeSteps 80 = .ok (.ifCond .ne 28, 3) := by decide +kernel
theorem dX12_judgeSteps_83 : decode cX12_judgeSteps 83 = .ok (.aload_n 0, 1) := by decide +kernel
theorem dX12_judgeSteps_84 : decode cX12_judgeSteps 84 = .ok (.getfield 124, 3) := by decide +kernel
theorem dX12_judgeSteps_87 : decode cX12_judgeSteps 87 = .ok (.iconst 1, 1) := by decide +kernel
theorem dX12_judgeSteps_88 : decode cX12_judgeSteps 88 = .ok (.isub, 1) := by decide +kernel
theorem dX12_judgeSteps_89 : decode cX12_judgeSteps 89 = .ok (.iload_n 1, 1) := by decide +kernel
theorem dX12_judgeSteps_90 : decode cX12_judgeSteps 90 = .ok (.isub, 1) := by decide +kernel
theorem dX12_judgeSteps_91 : decode cX12_judgeSteps 91 = .ok (.aload_n 0, 1) := by decide +kernel
theorem dX12_judgeSteps_92 : decode cX12_judgeSteps 92 = .ok (.iload_n 3, 1) := by decide +kernel
theorem dX12_judgeSteps_93 : decode cX12_judgeSteps 93 = .ok (.iload_n 2, 1) := by decide +kernel
theorem dX12_judgeSteps_94 : decode cX12_judgeSteps 94 = .ok (.iload 4, 2) := by decide +kernel
theorem dX12_judgeSteps_96 : decode cX12_judgeSteps 96 = .ok (.iload_n 1, 1) := by decide +kernel
theorem dX12_judgeSteps_97 : decode cX12_judgeSteps 97 = .ok (.iconst 1, 1) := by decide +kernel
theorem dX12_judgeSteps_98 : decode cX12_judgeSteps 98 = .ok (.invokevirtual 329, 3) := by decide +kernel
theorem dX12_judgeSteps_101 : decode cX12_judgeSteps 101 = .ok (.if_icmp .gt 7, 3) := by decide +kernel
theorem dX12_judgeSteps_104 : decode cX12_judgeSteps 104 = .ok (.iconst 1, 1) := by decide +kernel
theorem dX12_judgeSteps_105 : decode cX12_judgeSteps 105 = .ok (.goto 4, 3) := by decide +kernel
theorem dX12_judgeSteps_108 : decode cX12_judgeSteps 108 = .ok (.iconst 0, 1) := by decide +kernel
theorem dX12_judgeSteps_109 : decode cX12_judgeSteps 109 = .ok (.bastore, 1) := by decide +kernel
theorem dX12_judgeSteps_110 : decode cX12_judgeSteps 110 = .ok (.iinc 4 1, 3) := by decide +kernel
theorem dX12_judgeSteps_113 : decode cX12_judgeSteps 113 = .ok (.goto (-84), 3) := by decide +kernel
theorem dX12_judgeSteps_116 : decode cX12_judgeSteps 116 = .ok (.iinc 2 1, 3) := by decide +kernel
theorem dX12_judgeSteps_119 : decode cX12_judgeSteps 119 = .ok (.goto (-105), 3) := by decide +kernel
theorem dX12_judgeSteps_122 : decode cX12_judgeSteps 122 = .ok (.iinc 1 1, 3) := by decide +kernel
theorem dX12_judgeSteps_125 : decode cX12_judgeSteps 125 = .ok (.goto (-123), 3) := by decide +kernel
theorem dX12_judgeSteps_128 : decode cX12_judgeSteps 128 = .ok (.return_, 1) := by decide +kernel
theorem dX12_give_0 : decode cX12_give 0 = .ok (.aload_n 0, 1) := by decide +kernel
theorem dX12_give_1 : decode cX12_give 1 = .ok (.invokevirtual 193, 3) := by decide +kernel
theorem dX12_give_4 : decode cX12_give 4 = .ok (.lstore_n 1, 1) := by decide +kernel
theorem dX12_give_5 : decode cX12_give 5 = .ok (.aload_n 0, 1) := by decide +kernel
theorem dX12_give_6 : decode cX12_give 6 = .ok (.invokevirtual 340, 3) := by decide +kernel
theorem dX12_give_9 : decode cX12_give 9 = .ok (.iconst 0, 1) := by decide +kernel
theorem dX12_give_10 : decode cX12_give 10 = .ok (.istore_n 3, 1) := by decide +kernel
theorem dX12_give_11 : decode cX12_give 11 = .ok (.iload_n 3, 1) := by decide +kernel
theorem dX12_give_12 : decode cX12_give 12 = .ok (.iconst 5, 1) := by decide +kernel
theorem dX12_give_13 : decode cX12_give 13 = .ok (.if_icmp .ge 36, 3) := by decide +kernel
theorem dX12_give_16 : decode cX12_give 16 = .ok (.aload_n 0, 1) := by decide +kernel
theorem dX12_give_17 : decode cX12_give 17 = .ok (.getfield 88, 3) := by decide +kernel
theorem dX12_give_20 : decode cX12_give 20 = .ok (.iload_n 3, 1) := by decide +kernel
theorem dX12_give_21 : decode cX12_give 21 = .ok (.lconst 0, 1) := by decide +kernel
theorem dX12_give_22 : decode cX12_give 22 = .ok (.lastore, 1) := by decide +kernel
theorem dX12_give_23 : decode cX12_give 23 = .ok (.aload_n 0, 1) := by decide +kernel
theorem dX12_give_24 : decode cX12_give 24 = .ok (.getfield 85, 3) := by decide +kernel
theorem dX12_give_27 : decode cX12_give 27 = .ok (.iload_n 3, 1) := by decide +kernel
theorem dX12_give_28 : decode cX12_give 28 = .ok (.aload_n 0, 1) := by decide +kernel
theorem dX12_give_29 : decode cX12_give 29 = .ok (.getfield 45, 3) := by decide +kernel
theorem dX12_give_32 : decode cX12_give 32 = .ok (.iload_n 3, 1) := by decide +kernel
theorem dX12_give_33 : decode cX12_give 33 = .ok (.baload, 1) := by decide +kernel
theorem dX12_give_34 : decode cX12_give 34 = .ok (.ifCond .eq 7, 3) := by decide +kernel
theorem dX12_give_37 : decode cX12_give 37 = .ok (.lconst 1, 1) := by decide +kernel
theorem dX12_give_38 : decode cX12_give 38 = .ok (.goto 4, 3) := by decide +kernel
theorem dX12_give_41 : decode cX12_give 41 = .ok (.lconst 0, 1) := by decide +kernel
theorem dX12_give_42 : decode cX12_give 42 = .ok (.lastore, 1) := by decide +kernel
theorem dX12_give_43 : decode cX12_give 43 = .ok (.iinc 3 1, 3) := by decide +kernel
theorem dX12_give_46 : decode cX12_give 46 = .ok (.goto (-35), 3) := by decide +kernel
theorem dX12_give_49 : decode cX12_give 49 = .ok (.iconst 0, 1) := by decide +kernel
theorem dX12_give_50 : decode cX12_give 50 = .ok (.istore_n 3, 1) := by decide +kernel
theorem dX12_give_51 : decode cX12_give 51 = .ok (.iload_n 3, 1) := by decide +kernel
theorem dX12_give_52 : decode cX12_give 52 = .ok (.aload_n 0, 1) := by decide +kernel
theorem dX12_give_53 : decode cX12_give 53 = .ok (.getfield 124, 3) := by decide +kernel
theorem dX12_give_56 : decode cX12_give 56 = .ok (.iconst 1, 1) := by decide +kernel
theorem dX12_give_57 : decode cX12_give 57 = .ok (.isub, 1) := by decide +kernel
theorem dX12_give_58 : decode cX12_give 58 = .ok (.if_icmp .ge 178, 3) := by decide +kernel
theorem dX12_give_61 : decode cX12_give 61 = .ok (.iconst 0, 1) := by decide +kernel
theorem dX12_give_62 : decode cX12_give 62 = .ok (.istore 4, 2) := by decide +kernel
theorem dX12_give_64 : decode cX12_give 64 = .ok (.iload 4, 2) := by decide +kernel
theorem dX12_give_66 : decode cX12_give 66 = .ok (.iconst 5, 1) := by decide +kernel
theorem dX12_give_67 : decode cX12_give 67 = .ok (.if_icmp .ge 23, 3) := by decide +kernel
theorem dX12_give_70 : decode cX12_give 70 = .ok (.aload_n 0, 1) := by decide +kernel
theorem dX12_give_71 : decode cX12_give 71 = .ok (.getfield 85, 3) := by decide +kernel
theorem dX12_give_74 : decode cX12_give 74 = .ok (.iconst 5, 1) := by decide +kernel
theorem dX12_give_75 : decode cX12_give 75 = .ok (.iload_n 3, 1) := by decide +kernel
theorem dX12_give_76 : decode cX12_give 76 = .ok (.iconst 1, 1) := by decide +kernel
theorem dX12_give_77 : decode cX12_give 77 = .ok (.iadd, 1) := by decide +kernel
theorem dX12_give_78 : decode cX12_give 78 = .ok (.imul, 1) := by decide +kernel
theorem dX12_give_79 : decode cX12_give 79 = .ok (.iload 4, 2) := by decide +kernel
theorem dX12_give_81 : decode cX12_give 81 = .ok (.iadd, 1) := by decide +kernel
theorem dX12_give_82 : decode cX12_give 82 = .ok (.lconst 0, 1) := by decide +kernel
theorem dX12_give_83 : decode cX12_give 83 = .ok (.lastore, 1) := by decide +kernel
theorem dX12_give_84 : decode cX12_give 84 = .ok (.iinc 4 1, 3) := by decide +kernel
theorem dX12_give_87 : decode cX12_give 87 = .ok (.goto (-23), 3) := by decide +kernel
theorem dX12_give_90 : decode cX12_give 90 = .ok (.iconst 0, 1) := by decide +kernel
theorem dX12_give_91 : decode cX12_give 91 = .ok (.istore 4, 2) := by decide +kernel
theorem dX12_give_93 : decode cX12_give 93 = .ok (.iload 4, 2) := by decide +kernel
theorem dX12_give_95 : decode cX12_give 95 = .ok (.iconst 5, 1) := by decide +kernel
theorem dX12_give_96 : decode cX12_give 96 = .ok (.if_icmp .ge 134, 3) := by decide +kernel
theorem dX12_give_99 : decode cX12_give 99 = .ok (.iconst 0, 1) := by decide +kernel
theorem dX12_give_100 : decode cX12_give 100 = .ok (.istore 5, 2) := by decide +kernel
theorem dX12_give_102 : decode cX12_give 102 = .ok (.iload 5, 2) := by decide +kernel
theorem dX12_give_104 : decode cX12_give 104 = .ok (.iconst 5, 1) := by decide +kernel
theorem dX12_give_105 : decode cX12_give 105 = .ok (.if_icmp .ge 119, 3) := by decide +kernel
theorem dX12_give_108 : decode cX12_give 108 = .ok (.bipush 25, 2) := by decide +kernel
theorem dX12_give_110 : decode cX12_give 110 = .ok (.iload_n 3, 1) := by decide +kernel
theorem dX12_give_111 : decode cX12_give 111 = .ok (.imul, 1) := by decide +kernel
theorem dX12_give_112 : decode cX12_give 112 = .ok (.iconst 5, 1) := by decide +kernel
theorem dX12_give_113 : decode cX12_give 113 = .ok (.iload 4, 2) := by decide +kernel
theorem dX12_give_115 : decode cX12_give 115 = .ok (.imul, 1) := by decide +kernel
theorem dX12_give_116 : decode cX12_give 116 = .ok (.iadd, 1) := by decide +kernel
theorem dX12_give_117 : decode cX12_give 117 = .ok (.iload 5, 2) := by decide +kernel
theorem dX12_give_119 : decode cX12_give 119 = .ok (.iadd, 1) := by decide +kernel
theorem dX12_give_120 : decode cX12_give 120 = .ok (.istore 6, 2) := by decide +kernel
theorem dX12_give_122 : decode cX12_give 122 = .ok (.iconst 5, 1) := by decide +kernel
theorem dX12_give_123 : decode cX12_give 123 = .ok (.iload_n 3, 1) := by decide +kernel
theorem dX12_give_124 : decode cX12_give 124 = .ok (.iconst 1, 1) := by decide +kernel
theorem dX12_give_125 : decode cX12_give 125 = .ok (.iadd, 1) := by decide +kernel
theorem dX12_give_126 : decode cX12_give 126 = .ok (.imul, 1) := by decide +kernel
theorem dX12_give_127 : decode cX12_give 127 = .ok (.iload 5, 2) := by decide +kernel
theorem dX12_give_129 : decode cX12_give 129 = .ok (.iadd, 1) := by decide +kernel
theorem dX12_give_130 : decode cX12_give 130 = .ok (.istore 7, 2) := by decide +kernel
theorem dX12_give_132 : decode cX12_give 132 = .ok (.aload_n 0, 1) := by decide +kernel
theorem dX12_give_133 : decode cX12_give 133 = .ok (.getfield 48, 3) := by decide +kernel
theorem dX12_give_136 : decode cX12_give 136 = .ok (.iload 6, 2) := by decide +kernel
theorem dX12_give_138 : decode cX12_give 138 = .ok (.baload, 1) := by decide +kernel
theorem dX12_give_139 : decode cX12_give 139 = .ok (.ifCond .eq 79, 3) := by decide +kernel
theorem dX12_give_142 : decode cX12_give 142 = .ok (.aload_n 0, 1) := by decide +kernel
theorem dX12_give_143 : decode cX12_give 143 = .ok (.getfield 45, 3) := by decide +kernel
theorem dX12_give_146 : decode cX12_give 146 = .ok (.iload 7, 2) := by decide +kernel
theorem dX12_give_148 : decode cX12_give 148 = .ok (.baload, 1) := by decide +kernel
theorem dX12_give_149 : decode cX12_give 149 = .ok (.ifCond .ne 6, 3) := by decide +kernel
theorem dX12_give_152 : decode cX12_give 152 = .ok (.goto 66, 3) := by decide +kernel
theorem dX12_give_155 : decode cX12_give 155 = .ok (.aload_n 0, 1) := by decide +kernel
theorem dX12_give_156 : decode cX12_give 156 = .ok (.getfield 82, 3) := by decide +kernel
theorem dX12_give_159 : decode cX12_give 159 = .ok (.iload 6, 2) := by decide +kernel
theorem dX12_give_161 : decode cX12_give 161 = .ok (.baload, 1) := by decide +kernel
theorem dX12_give_162 : decode cX12_give 162 = .ok (.ifCond .eq 35, 3) := by decide +kernel
theorem dX12_give_165 : decode cX12_give 165 = .ok (.aload_n 0, 1) := by decide +kernel
theorem dX12_give_166 : decode cX12_give 166 = .ok (.getfield 88, 3) := by decide +kernel
theorem dX12_give_169 : decode cX12_give 169 = .ok (.iload 4, 2) := by decide +kernel
theorem dX12_give_171 : decode cX12_give 171 = .ok (.dup2, 1) := by decide +kernel
theorem dX12_give_172 : decode cX12_give 172 = .ok (.laload, 1) := by decide +kernel
theorem dX12_give_173 : decode cX12_give 173 = .ok (.aload_n 0, 1) := by decide +kernel
theorem dX12_give_174 : decode cX12_give 174 = .ok (.getfield 85, 3) := by decide +kernel
theorem dX12_give_177 : decode cX12_give 177 = .ok (.iconst 5, 1) := by decide +kernel
theorem dX12_give_178 : decode cX12_give 178 = .ok (.iload_n 3, 1) := by decide +kernel
theorem dX12_give_179 : decode cX12_give 179 = .ok (.imul, 1) := by decide +kernel
theorem dX12_give_180 : decode cX12_give 180 = .ok (.iload 4, 2) := by decide +kernel
theorem dX12_give_182 : decode cX12_give 182 = .ok (.iadd, 1) := by decide +kernel
theorem dX12_give_183 : decode cX12_give 183 = .ok (.laload, 1) := by decide +kernel
theorem dX12_give_184 : decode cX12_give 184 = .ok (.aload_n 0, 1) := by decide +kernel
theorem dX12_give_185 : decode cX12_give 185 = .ok (.getfield 55, 3) := by decide +kernel
theorem dX12_give_188 : decode cX12_give 188 = .ok (.iload 7, 2) := by decide +kernel
theorem dX12_give_190 : decode cX12_give 190 = .ok (.laload, 1) := by decide +kernel
theorem dX12_give_191 : decode cX12_give 191 = .ok (.lmul, 1) := by decide +kernel
theorem dX12_give_192 : decode cX12_give 192 = .ok (.ladd, 1) := by decide +kernel
theorem dX12_give_193 : decode cX12_give 193 = .ok (.lastore, 1) := by decide +kernel
theorem dX12_give_194 : decode cX12_give 194 = .ok (.goto 24, 3) := by decide +kernel
theorem dX12_give_197 : decode cX12_give 197 = .ok (.aload_n 0, 1) := by decide +kernel
theorem dX12_give_198 : decode cX12_give 198 = .ok (.getfield 85, 3) := by decide +kernel
theorem dX12_give_201 : decode cX12_give 201 = .ok (.iload 7, 2) := by decide +kernel
theorem dX12_give_203 : decode cX12_give 203 = .ok (.dup2, 1) := by decide +kernel
theorem dX12_give_204 : decode cX12_give 204 = .ok (.laload, 1) := by decide +kernel
theorem dX12_give_205 : decode cX12_give 205 = .ok (.aload_n 0, 1) := by decide +kernel
theorem dX12_give_206 : decode cX12_give 206 = .ok (.getfield 85, 3) := by decide +kernel
theorem dX12_give_209 : decode cX12_give 209 = .ok (.iconst 5, 1) := by decide +kernel
theorem dX12_give_210 : decode cX12_give 210 = .ok (.iload_n 3, 1) := by decide +kernel
theorem dX12_give_211 : decode cX12_give 211 = .ok (.imul, 1) := by decide +kernel
theorem dX12_give_212 : decode cX12_give 212 = .ok (.iload 4, 2) := by decide +kernel
theorem dX12_give_214 : decode cX12_give 214 = .ok (.iadd, 1) := by decide +kernel
theorem dX12_give_215 : decode cX12_give 215 = .ok (.laload, 1) := by decide +kernel
theorem dX12_give_216 : decode cX12_give 216 = .ok (.ladd, 1) := by decide +kernel
theorem dX12_give_217 : decode cX12_give 217 = .ok (.lastore, 1) := by decide +kernel
theorem dX12_give_218 : decode cX12_give 218 = .ok (.iinc 5 1, 3) := by decide +kernel
theorem dX12_give_221 : decode cX12_give 221 = .ok (.goto (-119), 3) := by decide +kernel
theorem dX12_give_224 : decode cX12_give 224 = .ok (.iinc 4 1, 3) := by decide +kernel
theorem dX12_give_227 : decode cX12_give 227 = .ok (.goto (-134), 3) := by decide +kernel
theorem dX12_give_230 : decode cX12_give 230 = .ok (.iinc 3 1, 3) := by decide +kernel
theorem dX12_give_233 : decode cX12_give 233 = .ok (.goto (-182), 3) := by decide +kernel
theorem dX12_give_236 : decode cX12_give 236 = .ok (.iconst 0, 1) := by decide +kernel
theorem dX12_give_237 : decode cX12_give 237 = .ok (.istore_n 3, 1) := by decide +kernel
theorem dX12_give_238 : decode cX12_give 238 = .ok (.iload_n 3, 1) := by decide +kernel
theorem dX12_give_239 : decode cX12_give 239 = .ok (.iconst 5, 1) := by decide +kernel
theorem dX12_give_240 : decode cX12_give 240 = .ok (.if_icmp .ge 33, 3) := by decide +kernel
theorem dX12_give_243 : decode cX12_give 243 = .ok (.aload_n 0, 1) := by decide +kernel
theorem dX12_give_244 : decode cX12_give 244 = .ok (.getfield 88, 3) := by decide +kernel
theorem dX12_give_247 : decode cX12_give 247 = .ok (.iload_n 3, 1) := by decide +kernel
theorem dX12_give_248 : decode cX12_give 248 = .ok (.dup2, 1) := by decide +kernel
theorem dX12_give_249 : decode cX12_give 249 = .ok (.laload, 1) := by decide +kernel
theorem dX12_give_250 : decode cX12_give 250 = .ok (.aload_n 0, 1) := by decide +kernel
theorem dX12_give_251 : decode cX12_give 251 = .ok (.getfield 85, 3) := by decide +kernel
theorem dX12_give_254 : decode cX12_give 254 = .ok (.iconst 5, 1) := by decide +kernel
theorem dX12_give_255 : decode cX12_give 255 = .ok (.aload_n 0, 1) := by decide +kernel
theorem dX12_give_256 : decode cX12_give 256 = .ok (.getfield 124, 3) := by decide +kernel
theorem dX12_give_259 : decode cX12_give 259 = .ok (.iconst 1, 1) := by decide +kernel
theorem dX12_give_260 : decode cX12_give 260 = .ok (.isub, 1) := by decide +kernel
theorem dX12_give_261 : decode cX12_give 261 = .ok (.imul, 1) := by decide +kernel
theorem dX12_give_262 : decode cX12_give 262 = .ok (.iload_n 3, 1) := by decide +kernel
theorem dX12_give_263 : decode cX12_give 263 = .ok (.iadd, 1) := by decide +kernel
theorem dX12_give_264 : decode cX12_give 264 = .ok (.laload, 1) := by decide +kernel
theorem dX12_give_265 : decode cX12_give 265 = .ok (.ladd, 1) := by decide +kernel
theorem dX12_give_266 : decode cX12_give 266 = .ok (.lastore, 1) := by decide +kernel
theorem dX12_give_267 : decode cX12_give 267 = .ok (.iinc 3 1, 3) := by decide +kernel
theorem dX12_give_270 : decode cX12_give 270 = .ok (.goto (-32), 3) := by decide +kernel
theorem dX12_give_273 : decode cX12_give 273 = .ok (.return_, 1) := by decide +kernel
theorem dX12_given_0 : decode cX12_given 0 = .ok (.iload_n 1, 1) := by decide +kernel
theorem dX12_given_1 : decode cX12_given 1 = .ok (.invokestatic 152, 3) := by decide +kernel
theorem dX12_given_4 : decode cX12_given 4 = .ok (.ifCond .ne 7, 3) := by decide +kernel
theorem dX12_given_7 : decode cX12_given 7 = .ok (.ldc2_w 196, 3) := by decide +kernel
theorem dX12_given_10 : decode cX12_given 10 = .ok (.lreturn, 1) := by decide +kernel
theorem dX12_given_11 : decode cX12_given 11 = .ok (.aload_n 0, 1) := by decide +kernel
theorem dX12_given_12 : decode cX12_given 12 = .ok (.invokevirtual 343, 3) := by decide +kernel
theorem dX12_given_15 : decode cX12_given 15 = .ok (.aload_n 0, 1) := by decide +kernel
theorem dX12_given_16 : decode cX12_given 16 = .ok (.getfield 88, 3) := by decide +kernel
theorem dX12_given_19 : decode cX12_given 19 = .ok (.iload_n 1, 1) := by decide +kernel
theorem dX12_given_20 : decode cX12_given 20 = .ok (.laload, 1) := by decide +kernel
theorem dX12_given_21 : decode cX12_given 21 = .ok (.lreturn, 1) := by decide +kernel
theorem dX12_claim_0 : decode cX12_claim 0 = .ok (.iload_n 1, 1) := by decide +kernel
theorem dX12_claim_1 : decode cX12_claim 1 = .ok (.invokestatic 152, 3) := by decide +kernel
theorem dX12_claim_4 : decode cX12_claim 4 = .ok (.ifCond .ne 7, 3) := by decide +kernel
theorem dX12_claim_7 : decode cX12_claim 7 = .ok (.ldc2_w 196, 3) := by decide +kernel
theorem dX12_claim_10 : decode cX12_claim 10 = .ok (.lreturn, 1) := by decide +kernel
theorem dX12_claim_11 : decode cX12_claim 11 = .ok (.aload_n 0, 1) := by decide +kernel
theorem dX12_claim_12 : decode cX12_claim 12 = .ok (.invokevirtual 193, 3) := by decide +kernel
theorem dX12_claim_15 : decode cX12_claim 15 = .ok (.lstore_n 2, 1) := by decide +kernel
theorem dX12_claim_16 : decode cX12_claim 16 = .ok (.aload_n 0, 1) := by decide +kernel
theorem dX12_claim_17 : decode cX12_claim 17 = .ok (.invokevirtual 340, 3) := by decide +kernel
theorem dX12_claim_20 : decode cX12_claim 20 = .ok (.iconst 0, 1) := by decide +kernel
theorem dX12_claim_21 : decode cX12_claim 21 = .ok (.istore 4, 2) := by decide +kernel
theorem dX12_claim_23 : decode cX12_claim 23 = .ok (.iload 4, 2) := by decide +kernel
theorem dX12_claim_25 : decode cX12_claim 25 = .ok (.aload_n 0, 1) := by decide +kernel
theorem dX12_claim_26 : decode cX12_claim 26 = .ok (.getfield 124, 3) := by decide +kernel
theorem dX12_claim_29 : decode cX12_claim 29 = .ok (.iconst 1, 1) := by decide +kernel
theorem dX12_claim_30 : decode cX12_claim 30 = .ok (.isub, 1) := by decide +kernel
theorem dX12_claim_31 : decode cX12_claim 31 = .ok (.if_icmp .ge 70, 3) := by decide +kernel
theorem dX12_claim_34 : decode cX12_claim 34 = .ok (.iconst 0, 1) := by decide +kernel
theorem dX12_claim_35 : decode cX12_claim 35 = .ok (.istore 5, 2) := by decide +kernel
theorem dX12_claim_37 : decode cX12_claim 37 = .ok (.iload 5, 2) := by decide +kernel
theorem dX12_claim_39 : decode cX12_claim 39 = .ok (.iconst 5, 1) := by decide +kernel
theorem dX12_claim_40 : decode cX12_claim 40 = .ok (.if_icmp .ge 55, 3) := by decide +kernel
theorem dX12_claim_43 : decode cX12_claim 43 = .ok (.bipush 25, 2) := by decide +kernel
theorem dX12_claim_45 : decode cX12_claim 45 = .ok (.iload 4, 2) := by decide +kernel
theorem dX12_claim_47 : decode cX12_claim 47 = .ok (.imul, 1) := by decide +kernel
theorem dX12_claim_48 : decode cX12_claim 48 = .ok (.iconst 5, 1) := by decide +kernel
theorem dX12_claim_49 : decode cX12_claim 49 = .ok (.iload_n 1, 1) := by decide +kernel
theorem dX12_claim_50 : decode cX12_claim 50 = .ok (.imul, 1) := by decide +kernel
theorem dX12_claim_51 : decode cX12_claim 51 = .ok (.iadd, 1) := by decide +kernel
theorem dX12_claim_52 : decode cX12_claim 52 = .ok (.iload 5, 2) := by decide +kernel
theorem dX12_claim_54 : decode cX12_claim 54 = .ok (.iadd, 1) := by decide +kernel
theorem dX12_claim_55 : decode cX12_claim 55 = .ok (.istore 6, 2) := by decide +kernel
theorem dX12_claim_57 : decode cX12_claim 57 = .ok (.aload_n 0, 1) := by decide +kernel
theorem dX12_claim_58 : decode cX12_claim 58 = .ok (.getfield 48, 3) := by decide +kernel
theorem dX12_claim_61 : decode cX12_claim 61 = .ok (.iload 6, 2) := by decide +kernel
theorem dX12_claim_63 : decode cX12_claim 63 = .ok (.aload_n 0, 1) := by decide +kernel
theorem dX12_claim_64 : decode cX12_claim 64 = .ok (.getfield 48, 3) := by decide +kernel
theorem dX12_claim_67 : decode cX12_claim 67 = .ok (.iload 6, 2) := by decide +kernel
theorem dX12_claim_69 : decode cX12_claim 69 = .ok (.baload, 1) := by decide +kernel
theorem dX12_claim_70 : decode cX12_claim 70 = .ok (.ifCond .eq 17, 3) := by decide +kernel
theorem dX12_claim_73 : decode cX12_claim 73 = .ok (.aload_n 0, 1) := by decide +kernel
theorem dX12_claim_74 : decode cX12_claim 74 = .ok (.getfield 82, 3) := by decide +kernel
theorem dX12_claim_77 : decode cX12_claim 77 = .ok (.iload 6, 2) := by decide +kernel
theorem dX12_claim_79 : decode cX12_claim 79 = .ok (.baload, 1) := by decide +kernel
theorem dX12_claim_80 : decode cX12_claim 80 = .ok (.ifCond .ne 7, 3) := by decide +kernel
theorem dX12_claim_83 : decode cX12_claim 83 = .ok (.iconst 1, 1) := by decide +kernel
theorem dX12_claim_84 : decode cX12_claim 84 = .ok (.goto 4, 3) := by decide +kernel
theorem dX12_claim_87 : decode cX12_claim 87 = .ok (.iconst 0, 1) := by decide +kernel
theorem dX12_claim_88 : decode cX12_claim 88 = .ok (.bastore, 1) := by decide +kernel
theorem dX12_claim_89 : decode cX12_claim 89 = .ok (.iinc 5 1, 3) := by decide +kernel
theorem dX12_claim_92 : decode cX12_claim 92 = .ok (.goto (-55), 3) := by decide +kernel
theorem dX12_claim_95 : decode cX12_claim 95 = .ok (.iinc 4 1, 3) := by decide +kernel
theorem dX12_claim_98 : decode cX12_claim 98 = .ok (.goto (-75), 3) := by decide +kernel
theorem dX12_claim_101 : decode cX12_claim 101 = .ok (.lload_n 2, 1) := by decide +kernel
theorem dX12_claim_102 : decode cX12_claim 102 = .ok (.aload_n 0, 1) := by decide +kernel
theorem dX12_claim_103 : decode cX12_claim 103 = .ok (.invokevirtual 189, 3) := by decide +kernel
theorem dX12_claim_106 : decode cX12_claim 106 = .ok (.lsub, 1) := by decide +kernel
theorem dX12_claim_107 : decode cX12_claim 107 = .ok (.lreturn, 1) := by decide +kernel
theorem dX12_judge_0 : decode cX12_judge 0 = .ok (.aload_n 0, 1) := by decide +kernel
theorem dX12_judge_1 : decode cX12_judge 1 = .ok (.getfield 346, 3) := by decide +kernel
theorem dX12_judge_4 : decode cX12_judge 4 = .ok (.bipush 12, 2) := by decide +kernel
theorem dX12_judge_6 : decode cX12_judge 6 = .ok (.if_icmp .ne 6, 3) := by decide +kernel
theorem dX12_judge_9 : decode cX12_judge 9 = .ok (.bipush (-4), 2) := by decide +kernel
theorem dX12_judge_11 : decode cX12_judge 11 = .ok (.ireturn, 1) := by decide +kernel
theorem dX12_judge_12 : decode cX12_judge 12 = .ok (.aload_n 0, 1) := by decide +kernel
theorem dX12_judge_13 : decode cX12_judge 13 = .ok (.invokevirtual 343, 3) := by decide +kernel
theorem dX12_judge_16 : decode cX12_judge 16 = .ok (.iconst 0, 1) := by decide +kernel
theorem dX12_judge_17 : decode cX12_judge 17 = .ok (.istore_n 1, 1) := by decide +kernel
theorem dX12_judge_18 : decode cX12_judge 18 = .ok (.iload_n 1, 1) := by decide +kernel
theorem dX12_judge_19 : decode cX12_judge 19 = .ok (.iconst 5, 1) := by decide +kernel
theorem dX12_judge_20 : decode cX12_judge 20 = .ok (.if_icmp .ge 28, 3) := by decide +kernel
theorem dX12_judge_23 : decode cX12_judge 23 = .ok (.aload_n 0, 1) := by decide +kernel
theorem dX12_judge_24 : decode cX12_judge 24 = .ok (.getfield 91, 3) := by decide +kernel
theorem dX12_judge_27 : decode cX12_judge 27 = .ok (.iconst 5, 1) := by decide +kernel
theorem dX12_judge_28 : decode cX12_judge 28 = .ok (.aload_n 0, 1) := by decide +kernel
theorem dX12_judge_29 : decode cX12_judge 29 = .ok (.getfield 346, 3) := by decide +kernel
theorem dX12_judge_32 : decode cX12_judge 32 = .ok (.imul, 1) := by decide +kernel
theorem dX12_judge_33 : decode cX12_judge 33 = .ok (.iload_n 1, 1) := by decide +kernel
theorem dX12_judge_34 : decode cX12_judge 34 = .ok (.iadd, 1) := by decide +kernel
theorem dX12_judge_35 : decode cX12_judge 35 = .ok (.aload_n 0, 1) := by decide +kernel
theorem dX12_judge_36 : decode cX12_judge 36 = .ok (.getfield 88, 3) := by decide +kernel
theorem dX12_judge_39 : decode cX12_judge 39 = .ok (.iload_n 1, 1) := by decide +kernel
theorem dX12_judge_40 : decode cX12_judge 40 = .ok (.laload, 1) := by decide +kernel
theorem dX12_judge_41 : decode cX12_judge 41 = .ok (.lastore, 1) := by decide +kernel
theorem dX12_judge_42 : decode cX12_judge 42 = .ok (.iinc 1 1, 3) := by decide +kernel
theorem dX12_judge_45 : decode cX12_judge 45 = .ok (.goto (-27), 3) := by decide +kernel
theorem dX12_judge_48 : decode cX12_judge 48 = .ok (.aload_n 0, 1) := by decide +kernel
theorem dX12_judge_49 : decode cX12_judge 49 = .ok (.dup, 1) := by decide +kernel
theorem dX12_judge_50 : decode cX12_judge 50 = .ok (.getfield 346, 3) := by decide +kernel
theorem dX12_judge_53 : decode cX12_judge 53 = .ok (.iconst 1, 1) := by decide +kernel
theorem dX12_judge_54 : decode cX12_judge 54 = .ok (.iadd, 1) := by decide +kernel
theorem dX12_judge_55 : decode cX12_judge 55 = .ok (.putfield 346, 3) := by decide +kernel
theorem dX12_judge_58 : decode cX12_judge 58 = .ok (.aload_n 0, 1) := by decide +kernel
theorem dX12_judge_59 : decode cX12_judge 59 = .ok (.getfield 346, 3) := by decide +kernel
theorem dX12_judge_62 : decode cX12_judge 62 = .ok (.iconst 1, 1) := by decide +kernel
theorem dX12_judge_63 : decode cX12_judge 63 = .ok (.isub, 1) := by decide +kernel
theorem dX12_judge_64 : decode cX12_judge 64 = .ok (.ireturn, 1) := by decide +kernel
theorem dX12_judged_0 : decode cX12_judged 0 = .ok (.iload_n 1, 1) := by decide +kernel
theorem dX12_judged_1 : decode cX12_judged 1 = .ok (.iconst 0, 1) := by decide +kernel
theorem dX12_judged_2 : decode cX12_judged 2 = .ok (.aload_n 0, 1) := by decide +kernel
theorem dX12_judged_3 : decode cX12_judged 3 = .ok (.getfield 346, 3) := by decide +kernel
theorem dX12_judged_6 : decode cX12_judged 6 = .ok (.iconst 1, 1) := by decide +kernel
theorem dX12_judged_7 : decode cX12_judged 7 = .ok (.isub, 1) := by decide +kernel
theorem dX12_judged_8 : decode cX12_judged 8 = .ok (.invokestatic 148, 3) := by decide +kernel
theorem dX12_judged_11 : decode cX12_judged 11 = .ok (.ifCond .eq 23, 3) := by decide +kernel
theorem dX12_judged_14 : decode cX12_judged 14 = .ok (.iload_n 2, 1) := by decide +kernel
theorem dX12_judged_15 : decode cX12_judged 15 = .ok (.invokestatic 152, 3) := by decide +kernel
theorem dX12_judged_18 : decode cX12_judged 18 = .ok (.ifCond .eq 16, 3) := by decide +kernel
theorem dX12_judged_21 : decode cX12_judged 21 = .ok (.aload_n 0, 1) := by decide +kernel
theorem dX12_judged_22 : decode cX12_judged 22 = .ok (.getfield 91, 3) := by decide +kernel
theorem dX12_judged_25 : decode cX12_judged 25 = .ok (.iconst 5, 1) := by decide +kernel
theorem dX12_judged_26 : decode cX12_judged 26 = .ok (.iload_n 1, 1) := by decide +kernel
theorem dX12_judged_27 : decode cX12_judged 27 = .ok (.imul, 1) := by decide +kernel
theorem dX12_judged_28 : decode cX12_judged 28 = .ok (.iload_n 2, 1) := by decide +kernel
theorem dX12_judged_29 : decode cX12_judged 29 = .ok (.iadd, 1) := by decide +kernel
theorem dX12_judged_30 : decode cX12_judged 30 = .ok (.laload, 1) := by decide +kernel
theorem dX12_judged_31 : decode cX12_judged 31 = .ok (.goto 6, 3) := by decide +kernel
theorem dX12_judged_34 : decode cX12_judged 34 = .ok (.ldc2_w 196, 3) := by decide +kernel
theorem dX12_judged_37 : decode cX12_judged 37 = .ok (.lreturn, 1) := by decide +kernel
theorem dX12_changed_0 : decode cX12_changed 0 = .ok (.iload_n 1, 1) := by decide +kernel
theorem dX12_changed_1 : decode cX12_changed 1 = .ok (.iconst 0, 1) := by decide +kernel
theorem dX12_changed_2 : decode cX12_changed 2 = .ok (.aload_n 0, 1) := by decide +kernel
theorem dX12_changed_3 : decode cX12_changed 3 = .ok (.getfield 346, 3) := by decide +kernel
theorem dX12_changed_6 : decode cX12_changed 6 = .ok (.iconst 1, 1) := by decide +kernel
theorem dX12_changed_7 : decode cX12_changed 7 = .ok (.isub, 1) := by decide +kernel
theorem dX12_changed_8 : decode cX12_changed 8 = .ok (.invokestatic 148, 3) := by decide +kernel
theorem dX12_changed_11 : decode cX12_changed 11 = .ok (.ifCond .ne 6, 3) := by decide +kernel
theorem dX12_changed_14 : decode cX12_changed 14 = .ok (.bipush (-2), 2) := by decide +kernel
theorem dX12_changed_16 : decode cX12_changed 16 = .ok (.ireturn, 1) := by decide +kernel
theorem dX12_changed_17 : decode cX12_changed 17 = .ok (.aload_n 0, 1) := by decide +kernel
theorem dX12_changed_18 : decode cX12_changed 18 = .ok (.invokevirtual 343, 3) := by decide +kernel
theorem dX12_changed_21 : decode cX12_changed 21 = .ok (.iconst 0, 1) := by decide +kernel
theorem dX12_changed_22 : decode cX12_changed 22 = .ok (.istore_n 2, 1) := by decide +kernel
theorem dX12_changed_23 : decode cX12_changed 23 = .ok (.iconst 0, 1) := by decide +kernel
theorem dX12_changed_24 : decode cX12_changed 24 = .ok (.istore_n 3, 1) := by decide +kernel
theorem dX12_changed_25 : decode cX12_changed 25 = .ok (.iload_n 3, 1) := by decide +kernel
theorem dX12_changed_26 : decode cX12_changed 26 = .ok (.iconst 5, 1) := by decide +kernel
theorem dX12_changed_27 : decode cX12_changed 27 = .ok (.if_icmp .ge 39, 3) := by decide +kernel
theorem dX12_changed_30 : decode cX12_changed 30 = .ok (.iload_n 2, 1) := by decide +kernel
theorem dX12_changed_31 : decode cX12_changed 31 = .ok (.aload_n 0, 1) := by decide +kernel
theorem dX12_changed_32 : decode cX12_changed 32 = .ok (.getfield 88, 3) := by decide +kernel
theorem dX12_changed_35 : decode cX12_changed 35 = .ok (.iload_n 3, 1) := by decide +kernel
theorem dX12_changed_36 : decode cX12_changed 36 = .ok (.laload, 1) := by decide +kernel
theorem dX12_changed_37 : decode cX12_changed 37 = .ok (.aload_n 0, 1) := by decide +kernel
theorem dX12_changed_38 : decode cX12_changed 38 = .ok (.getfield 91, 3) := by decide +kernel
theorem dX12_changed_41 : decode cX12_changed 41 = .ok (.iconst 5, 1) := by decide +kernel
theorem dX12_changed_42 : decode cX12_changed 42 = .ok (.iload_n 1, 1) := by decide +kernel
theorem dX12_changed_43 : decode cX12_changed 43 = .ok (.imul, 1) := by decide +kernel
theorem dX12_changed_44 : decode cX12_changed 44 = .ok (.iload_n 3, 1) := by decide +kernel
theorem dX12_changed_45 : decode cX12_changed 45 = .ok (.iadd, 1) := by decide +kernel
theorem dX12_changed_46 : decode cX12_changed 46 = .ok (.laload, 1) := by decide +kernel
theorem dX12_changed_47 : decode cX12_changed 47 = .ok (.lcmp, 1) := by decide +kernel
theorem dX12_changed_48 : decode cX12_changed 48 = .ok (.ifCond .eq 9, 3) := by decide +kernel
theorem dX12_changed_51 : decode cX12_changed 51 = .ok (.iconst 1, 1) := by decide +kernel
theorem dX12_changed_52 : decode cX12_changed 52 = .ok (.iload_n 3, 1) := by decide +kernel
theorem dX12_changed_53 : decode cX12_changed 53 = .ok (.ishl, 1) := by decide +kernel
theorem dX12_changed_54 : decode cX12_changed 54 = .ok (.goto 4, 3) := by decide +kernel
theorem dX12_changed_57 : decode cX12_changed 57 = .ok (.iconst 0, 1) := by decide +kernel
theorem dX12_changed_58 : decode cX12_changed 58 = .ok (.ior, 1) := by decide +kernel
theorem dX12_changed_59 : decode cX12_changed 59 = .ok (.istore_n 2, 1) := by decide +kernel
theorem dX12_changed_60 : decode cX12_changed 60 = .ok (.iinc 3 1, 3) := by decide +kernel
theorem dX12_changed_63 : decode cX12_changed 63 = .ok (.goto (-38), 3) := by decide +kernel
theorem dX12_changed_66 : decode cX12_changed 66 = .ok (.iload_n 2, 1) := by decide +kernel
theorem dX12_changed_67 : decode cX12_changed 67 = .ok (.ireturn, 1) := by decide +kernel
theorem dX12_greater_0 : decode cX12_greater 0 = .ok (.lload_n 0, 1) := by decide +kernel
theorem dX12_greater_1 : decode cX12_greater 1 = .ok (.lload_n 2, 1) := by decide +kernel
theorem dX12_greater_2 : decode cX12_greater 2 = .ok (.lcmp, 1) := by decide +kernel
theorem dX12_greater_3 : decode cX12_greater 3 = .ok (.ifCond .le 7, 3) := by decide +kernel
theorem dX12_greater_6 : decode cX12_greater 6 = .ok (.lload_n 0, 1) := by decide +kernel
theorem dX12_greater_7 : decode cX12_greater 7 = .ok (.goto 4, 3) := by decide +kernel
theorem dX12_greater_10 : decode cX12_greater 10 = .ok (.lload_n 2, 1) := by decide +kernel
theorem dX12_greater_11 : decode cX12_greater 11 = .ok (.lreturn, 1) := by decide +kernel
theorem dX12_worst_0 : decode cX12_worst 0 = .ok (.aload_n 0, 1) := by decide +kernel
theorem dX12_worst_1 : decode cX12_worst 1 = .ok (.iload_n 1, 1) := by decide +kernel
theorem dX12_worst_2 : decode cX12_worst 2 = .ok (.iload_n 2, 1) := by decide +kernel
theorem dX12_worst_3 : decode cX12_worst 3 = .ok (.invokevirtual 172, 3) := by decide +kernel
theorem dX12_worst_6 : decode cX12_worst 6 = .ok (.ifCond .ne 7, 3) := by decide +kernel
theorem dX12_worst_9 : decode cX12_worst 9 = .ok (.ldc2_w 196, 3) := by decide +kernel
theorem dX12_worst_12 : decode cX12_worst 12 = .ok (.lreturn, 1) := by decide +kernel
theorem dX12_worst_13 : decode cX12_worst 13 = .ok (.aload_n 0, 1) := by decide +kernel
theorem dX12_worst_14 : decode cX12_worst 14 = .ok (.invokevirtual 193, 3) := by decide +kernel
theorem dX12_worst_17 : decode cX12_worst 17 = .ok (.lstore_n 3, 1) := by decide +kernel
theorem dX12_worst_18 : decode cX12_worst 18 = .ok (.aload_n 0, 1) := by decide +kernel
theorem dX12_worst_19 : decode cX12_worst 19 = .ok (.iload_n 1, 1) := by decide +kernel
theorem dX12_worst_20 : decode cX12_worst 20 = .ok (.iload_n 2, 1) := by decide +kernel
theorem dX12_worst_21 : decode cX12_worst 21 = .ok (.invokevirtual 198, 3) := by decide +kernel
theorem dX12_worst_24 : decode cX12_worst 24 = .ok (.lload_n 3, 1) := by decide +kernel
theorem dX12_worst_25 : decode cX12_worst 25 = .ok (.aload_n 0, 1) := by decide +kernel
theorem dX12_worst_26 : decode cX12_worst 26 = .ok (.iload_n 1, 1) := by decide +kernel
theorem dX12_worst_27 : decode cX12_worst 27 = .ok (.iload_n 2, 1) := by decide +kernel
theorem dX12_worst_28 : decode cX12_worst 28 = .ok (.invokevirtual 198, 3) := by decide +kernel
theorem dX12_worst_31 : decode cX12_worst 31 = .ok (.lsub, 1) := by decide +kernel
theorem dX12_worst_32 : decode cX12_worst 32 = .ok (.invokestatic 349, 3) := by decide +kernel
theorem dX12_worst_35 : decode cX12_worst 35 = .ok (.lreturn, 1) := by decide +kernel
theorem dX12_question_0 : decode cX12_question 0 = .ok (.aload_n 0, 1) := by decide +kernel
theorem dX12_question_1 : decode cX12_question 1 = .ok (.invokevirtual 193, 3) := by decide +kernel
theorem dX12_question_4 : decode cX12_question 4 = .ok (.lstore_n 1, 1) := by decide +kernel
theorem dX12_question_5 : decode cX12_question 5 = .ok (.lload_n 1, 1) := by decide +kernel
theorem dX12_question_6 : decode cX12_question 6 = .ok (.lstore_n 3, 1) := by decide +kernel
theorem dX12_question_7 : decode cX12_question 7 = .ok (.iconst (-1), 1) := by decide +kernel
theorem dX12_question_8 : decode cX12_question 8 = .ok (.istore 5, 2) := by decide +kernel
theorem dX12_question_10 : decode cX12_question 10 = .ok (.iconst 0, 1) := by decide +kernel
theorem dX12_question_11 : decode cX12_question 11 = .ok (.istore 6, 2) := by decide +kernel
theorem dX12_question_13 : decode cX12_question 13 = .ok (.iload 6, 2) := by decide +kernel
theorem dX12_question_15 : decode cX12_question 15 = .ok (.iconst 5, 1) := by decide +kernel
theorem dX12_question_16 : decode cX12_question 16 = .ok (.aload_n 0, 1) := by decide +kernel
theorem dX12_question_17 : decode cX12_question 17 = .ok (.getfield 124, 3) := by decide +kernel
theorem dX12_question_20 : decode cX12_question 20 = .ok (.imul, 1) := by decide +kernel
theorem dX12_question_21 : decode cX12_question 21 = .ok (.if_icmp .ge 64, 3) := by decide +kernel
theorem dX12_question_24 : decode cX12_question 24 = .ok (.aload_n 0, 1) := by decide +kernel
theorem dX12_question_25 : decode cX12_question 25 = .ok (.iload 6, 2) := by decide +kernel
theorem dX12_question_27 : decode cX12_question 27 = .ok (.iconst 5, 1) := by decide +kernel
theorem dX12_question_28 : decode cX12_question 28 = .ok (.irem, 1) := by decide +kernel
theorem dX12_question_29 : decode cX12_question 29 = .ok (.iload 6, 2) := by decide +kernel
theorem dX12_question_31 : decode cX12_question 31 = .ok (.iconst 5, 1) := by decide +kernel
theorem dX12_question_32 : decode cX12_question 32 = .ok (.idiv, 1) := by decide +kernel
theorem dX12_question_33 : decode cX12_question 33 = .ok (.invokevirtual 198, 3) := by decide +kernel
theorem dX12_question_36 : decode cX12_question 36 = .ok (.lstore 7, 2) := by decide +kernel
theorem dX12_question_38 : decode cX12_question 38 = .ok (.lload 7, 2) := by decide +kernel
theorem dX12_question_40 : decode cX12_question 40 = .ok (.lload_n 3, 1) := by decide +kernel
theorem dX12_question_41 : decode cX12_question 41 = .ok (.lload 7, 2) := by decide +kernel
theorem dX12_question_43 : decode cX12_question 43 = .ok (.lsub, 1) := by decide +kernel
theorem dX12_question_44 : decode cX12_question 44 = .ok (.invokestatic 349, 3) := by decide +kernel
theorem dX12_question_47 : decode cX12_question 47 = .ok (.lload_n 1, 1) := by decide +kernel
theorem dX12_question_48 : decode cX12_question 48 = .ok (.lcmp, 1) := by decide +kernel
theorem dX12_question_49 : decode cX12_question 49 = .ok (.ifCond .lt 6, 3) := by decide +kernel
theorem dX12_question_52 : decode cX12_question 52 = .ok (.goto 27, 3) := by decide +kernel
theorem dX12_question_55 : decode cX12_question 55 = .ok (.lload 7, 2) := by decide +kernel
theorem dX12_question_57 : decode cX12_question 57 = .ok (.lload_n 3, 1) := by decide +kernel
theorem dX12_question_58 : decode cX12_question 58 = .ok (.lload 7, 2) := by decide +kernel
theorem dX12_question_60 : decode cX12_question 60 = .ok (.lsub, 1) := by decide +kernel
theorem dX12_question_61 : decode cX12_question 61 = .ok (.invokestatic 349, 3) := by decide +kernel
theorem dX12_question_64 : decode cX12_question 64 = .ok (.lstore_n 1, 1) := by decide +kernel
theorem dX12_question_65 : decode cX12_question 65 = .ok (.bipush 10, 2) := by decide +kernel
theorem dX12_question_67 : decode cX12_question 67 = .ok (.iload 6, 2) := by decide +kernel
theorem dX12_question_69 : decode cX12_question 69 = .ok (.iconst 5, 1) := by decide +kernel
theorem dX12_question_70 : decode cX12_question 70 = .ok (.idiv, 1) := by decide +kernel
theorem dX12_question_71 : decode cX12_question 71 = .ok (.imul, 1) := by decide +kernel
theorem dX12_question_72 : decode cX12_question 72 = .ok (.iload 6, 2) := by decide +kernel
theorem dX12_question_74 : decode cX12_question 74 = .ok (.iconst 5, 1) := by decide +kernel
theorem dX12_question_75 : decode cX12_question 75 = .ok (.irem, 1) := by decide +kernel
theorem dX12_question_76 : decode cX12_question 76 = .ok (.iadd, 1) := by decide +kernel
theorem dX12_question_77 : decode cX12_question 77 = .ok (.istore 5, 2) := by decide +kernel
theorem dX12_question_79 : decode cX12_question 79 = .ok (.iinc 6 1, 3) := by decide +kernel
theorem dX12_question_82 : decode cX12_question 82 = .ok (.goto (-69), 3) := by decide +kernel
theorem dX12_question_85 : decode cX12_question 85 = .ok (.iload 5, 2) := by decide +kernel
theorem dX12_question_87 : decode cX12_question 87 = .ok (.ireturn, 1) := by decide +kernel
theorem dX12_leastAmong_0 : decode cX12_leastAmong 0 = .ok (.aload_n 0, 1) := by decide +kernel
theorem dX12_leastAmong_1 : decode cX12_leastAmong 1 = .ok (.getfield 61, 3) := by decide +kernel
theorem dX12_leastAmong_4 : decode cX12_leastAmong 4 = .ok (.bipush 60, 2) := by decide +kernel
theorem dX12_leastAmong_6 : decode cX12_leastAmong 6 = .ok (.iload_n 1, 1) := by decide +kernel
theorem dX12_leastAmong_7 : decode cX12_leastAmong 7 = .ok (.imul, 1) := by decide +kernel
theorem dX12_leastAmong_8 : decode cX12_leastAmong 8 = .ok (.iload_n 1, 1) := by decide +kernel
theorem dX12_leastAmong_9 : decode cX12_leastAmong 9 = .ok (.iadd, 1) := by decide +kernel
theorem dX12_leastAmong_10 : decode cX12_leastAmong 10 = .ok (.laload, 1) := by decide +kernel
theorem dX12_leastAmong_11 : decode cX12_leastAmong 11 = .ok (.lstore 5, 2) := by decide +kernel
theorem dX12_leastAmong_13 : decode cX12_leastAmong 13 = .ok (.iload_n 2, 1) := by decide +kernel
theorem dX12_leastAmong_14 : decode cX12_leastAmong 14 = .ok (.ifCond .eq 8, 3) := by decide +kernel
theorem dX12_leastAmong_17 : decode cX12_leastAmong 17 = .ok (.lload 5, 2) := by decide +kernel
theorem dX12_leastAmong_19 : decode cX12_leastAmong 19 = .ok (.goto 7, 3) := by decide +kernel
theorem dX12_leastAmong_22 : decode cX12_leastAmong 22 = .ok (.lload_n 3, 1) := by decide +kernel
theorem dX12_leastAmong_23 : decode cX12_leastAmong 23 = .ok (.lload 5, 2) := by decide +kernel
theorem dX12_leastAmong_25 : decode cX12_leastAmong 25 = .ok (.lsub, 1) := by decide +kernel
theorem dX12_leastAmong_26 : decode cX12_leastAmong 26 = .ok (.lstore 7, 2) := by decide +kernel
theorem dX12_leastAmong_28 : decode cX12_leastAmong 28 = .ok (.lload 7, 2) := by decide +kernel
theorem dX12_leastAmong_30 : decode cX12_leastAmong 30 = .ok (.lstore 9, 2) := by decide +kernel
theorem dX12_leastAmong_32 : decode cX12_leastAmong 32 = .ok (.iconst 0, 1) := by decide +kernel
theorem dX12_leastAmong_33 : decode cX12_leastAmong 33 = .ok (.istore 11, 2) := by decide +kernel
theorem dX12_leastAmong_35 : decode cX12_leastAmong 35 = .ok (.iload 11, 2) := by decide +kernel
theorem dX12_leastAmong_37 : decode cX12_leastAmong 37 = .ok (.iconst 5, 1) := by decide +kernel
theorem dX12_leastAmong_38 : decode cX12_leastAmong 38 = .ok (.aload_n 0, 1) := by decide +kernel
theorem dX12_leastAmong_39 : decode cX12_leastAmong 39 = .ok (.getfield 124, 3) := by decide +kernel
theorem dX12_leastAmong_42 : decode cX12_leastAmong 42 = .ok (.imul, 1) := by decide +kernel
theorem dX12_leastAmong_43 : decode cX12_leastAmong 43 = .ok (.if_icmp .ge 85, 3) := by decide +kernel
theorem dX12_leastAmong_46 : decode cX12_leastAmong 46 = .ok (.iload_n 2, 1) := by decide +kernel
theorem dX12_leastAmong_47 : decode cX12_leastAmong 47 = .ok (.ifCond .eq 18, 3) := by decide +kernel
theorem dX12_leastAmong_50 : decode cX12_leastAmong 50 = .ok (.aload_n 0, 1) := by decide +kernel
theorem dX12_leastAmong_51 : decode cX12_leastAmong 51 = .ok (.getfield 61, 3) := by decide +kernel
theorem dX12_leastAmong_54 : decode cX12_leastAmong 54 = .ok (.bipush 60, 2) := by decide +kernel
theorem dX12_leastAmong_56 : decode cX12_leastAmong 56 = .ok (.iload_n 1, 1) := by decide +kernel
theorem dX12_leastAmong_57 : decode cX12_leastAmong 57 = .ok (.imul, 1) := by decide +kernel
theorem dX12_leastAmong_58 : decode cX12_leastAmong 58 = .ok (.iload 11, 2) := by decide +kernel
theorem dX12_leastAmong_60 : decode cX12_leastAmong 60 = .ok (.iadd, 1) := by decide +kernel
theorem dX12_leastAmong_61 : decode cX12_leastAmong 61 = .ok (.laload, 1) := by decide +kernel
theorem dX12_leastAmong_62 : decode cX12_leastAmong 62 = .ok (.goto 29, 3) := by decide +kernel
theorem dX12_leastAmong_65 : decode cX12_leastAmong 65 = .ok (.aload_n 0, 1) := by decide +kernel
theorem dX12_leastAmong_66 : decode cX12_leastAmong 66 = .ok (.getfield 61, 3) := by decide +kernel
theorem dX12_leastAmong_69 : decode cX12_leastAmong 69 = .ok (.bipush 60, 2) := by decide +kernel
theorem dX12_leastAmong_71 : decode cX12_leastAmong 71 = .ok (.iload 11, 2) := by decide +kernel
theorem dX12_leastAmong_73 : decode cX12_leastAmong 73 = .ok (.imul, 1) := by decide +kernel
theorem dX12_leastAmong_74 : decode cX12_leastAmong 74 = .ok (.iload 11, 2) := by decide +kernel
theorem dX12_leastAmong_76 : decode cX12_leastAmong 76 = .ok (.iadd, 1) := by decide +kernel
theorem dX12_leastAmong_77 : decode cX12_leastAmong 77 = .ok (.laload, 1) := by decide +kernel
theorem dX12_leastAmong_78 : decode cX12_leastAmong 78 = .ok (.aload_n 0, 1) := by decide +kernel
theorem dX12_leastAmong_79 : decode cX12_leastAmong 79 = .ok (.getfield 61, 3) := by decide +kernel
theorem dX12_leastAmong_82 : decode cX12_leastAmong 82 = .ok (.bipush 60, 2) := by decide +kernel
theorem dX12_leastAmong_84 : decode cX12_leastAmong 84 = .ok (.iload_n 1, 1) := by decide +kernel
theorem dX12_leastAmong_85 : decode cX12_leastAmong 85 = .ok (.imul, 1) := by decide +kernel
theorem dX12_leastAmong_86 : decode cX12_leastAmong 86 = .ok (.iload 11, 2) := by decide +kernel
theorem dX12_leastAmong_88 : decode cX12_leastAmong 88 = .ok (.iadd, 1) := by decide +kernel
theorem dX12_leastAmong_89 : decode cX12_leastAmong 89 = .ok (.laload, 1) := by decide +kernel
theorem dX12_leastAmong_90 : decode cX12_leastAmong 90 = .ok (.lsub, 1) := by decide +kernel
theorem dX12_leastAmong_91 : decode cX12_leastAmong 91 = .ok (.lstore 12, 2) := by decide +kernel
theorem dX12_leastAmong_93 : decode cX12_leastAmong 93 = .ok (.lload 12, 2) := by decide +kernel
theorem dX12_leastAmong_95 : decode cX12_leastAmong 95 = .ok (.lload 7, 2) := by decide +kernel
theorem dX12_leastAmong_97 : decode cX12_leastAmong 97 = .ok (.lload 12, 2) := by decide +kernel
theorem dX12_leastAmong_99 : decode cX12_leastAmong 99 = .ok (.lsub, 1) := by decide +kernel
theorem dX12_leastAmong_100 : decode cX12_leastAmong 100 = .ok (.invokestatic 349, 3) := by decide +kernel
theorem dX12_leastAmong_103 : decode cX12_leastAmong 103 = .ok (.lstore 14, 2) := by decide +kernel
theorem dX12_leastAmong_105 : decode cX12_leastAmong 105 = .ok (.lload 14, 2) := by decide +kernel
theorem dX12_leastAmong_107 : decode cX12_leastAmong 107 = .ok (.lload 9, 2) := by decide +kernel
theorem dX12_leastAmong_109 : decode cX12_leastAmong 109 = .ok (.lcmp, 1) := by decide +kernel
theorem dX12_leastAmong_110 : decode cX12_leastAmong 110 = .ok (.ifCond .ge 8, 3) := by decide +kernel
theorem dX12_leastAmong_113 : decode cX12_leastAmong 113 = .ok (.lload 14, 2) := by decide +kernel
theorem dX12_leastAmong_115 : decode cX12_leastAmong 115 = .ok (.goto 5, 3) := by decide +kernel
theorem dX12_leastAmong_118 : decode cX12_leastAmong 118 = .ok (.lload 9, 2) := by decide +kernel
theorem dX12_leastAmong_120 : decode cX12_leastAmong 120 = .ok (.lstore 9, 2) := by decide +kernel
theorem dX12_leastAmong_122 : decode cX12_leastAmong 122 = .ok (.iinc 11 1, 3) := by decide +kernel
theorem dX12_leastAmong_125 : decode cX12_leastAmong 125 = .ok (.goto (-90), 3) := by decide +kernel
theorem dX12_leastAmong_128 : decode cX12_leastAmong 128 = .ok (.lload 9, 2) := by decide +kernel
theorem dX12_leastAmong_130 : decode cX12_leastAmong 130 = .ok (.lreturn, 1) := by decide +kernel
theorem dX12_ofTwo_0 : decode cX12_ofTwo 0 = .ok (.aload_n 0, 1) := by decide +kernel
theorem dX12_ofTwo_1 : decode cX12_ofTwo 1 = .ok (.iload_n 1, 1) := by decide +kernel
theorem dX12_ofTwo_2 : decode cX12_ofTwo 2 = .ok (.iconst 1, 1) := by decide +kernel
theorem dX12_ofTwo_3 : decode cX12_ofTwo 3 = .ok (.lload_n 2, 1) := by decide +kernel
theorem dX12_ofTwo_4 : decode cX12_ofTwo 4 = .ok (.invokevirtual 353, 3) := by decide +kernel
theorem dX12_ofTwo_7 : decode cX12_ofTwo 7 = .ok (.aload_n 0, 1) := by decide +kernel
theorem dX12_ofTwo_8 : decode cX12_ofTwo 8 = .ok (.iload_n 1, 1) := by decide +kernel
theorem dX12_ofTwo_9 : decode cX12_ofTwo 9 = .ok (.iconst 0, 1) := by decide +kernel
theorem dX12_ofTwo_10 : decode cX12_ofTwo 10 = .ok (.lload_n 2, 1) := by decide +kernel
theorem dX12_ofTwo_11 : decode cX12_ofTwo 11 = .ok (.invokevirtual 353, 3) := by decide +kernel
theorem dX12_ofTwo_14 : decode cX12_ofTwo 14 = .ok (.invokestatic 349, 3) := by decide +kernel
theorem dX12_ofTwo_17 : decode cX12_ofTwo 17 = .ok (.lreturn, 1) := by decide +kernel
theorem dX12_worstOfTwo_0 : decode cX12_worstOfTwo 0 = .ok (.aload_n 0, 1) := by decide +kernel
theorem dX12_worstOfTwo_1 : decode cX12_worstOfTwo 1 = .ok (.iload_n 1, 1) := by decide +kernel
theorem dX12_worstOfTwo_2 : decode cX12_worstOfTwo 2 = .ok (.iload_n 2, 1) := by decide +kernel
theorem dX12_worstOfTwo_3 : decode cX12_worstOfTwo 3 = .ok (.invokevirtual 172, 3) := by decide +kernel
theorem dX12_worstOfTwo_6 : decode cX12_worstOfTwo 6 = .ok (.ifCond .ne 7, 3) := by decide +kernel
theorem dX12_worstOfTwo_9 : decode cX12_worstOfTwo 9 = .ok (.ldc2_w 196, 3) := by decide +kernel
theorem dX12_worstOfTwo_12 : decode cX12_worstOfTwo 12 = .ok (.lreturn, 1) := by decide +kernel
theorem dX12_worstOfTwo_13 : decode cX12_worstOfTwo 13 = .ok (.aload_n 0, 1) := by decide +kernel
theorem dX12_worstOfTwo_14 : decode cX12_worstOfTwo 14 = .ok (.invokevirtual 193, 3) := by decide +kernel
theorem dX12_worstOfTwo_17 : decode cX12_worstOfTwo 17 = .ok (.lstore_n 3, 1) := by decide +kernel
theorem dX12_worstOfTwo_18 : decode cX12_worstOfTwo 18 = .ok (.aload_n 0, 1) := by decide +kernel
theorem dX12_worstOfTwo_19 : decode cX12_worstOfTwo 19 = .ok (.invokevirtual 357, 3) := by decide +kernel
theorem dX12_worstOfTwo_22 : decode cX12_worstOfTwo 22 = .ok (.aload_n 0, 1) := by decide +kernel
theorem dX12_worstOfTwo_23 : decode cX12_worstOfTwo 23 = .ok (.iconst 5, 1) := by decide +kernel
theorem dX12_worstOfTwo_24 : decode cX12_worstOfTwo 24 = .ok (.iload_n 2, 1) := by decide +kernel
theorem dX12_worstOfTwo_25 : decode cX12_worstOfTwo 25 = .ok (.imul, 1) := by decide +kernel
theorem dX12_worstOfTwo_26 : decode cX12_worstOfTwo 26 = .ok (.iload_n 1, 1) := by decide +kernel
theorem dX12_worstOfTwo_27 : decode cX12_worstOfTwo 27 = .ok (.iadd, 1) := by decide +kernel
theorem dX12_worstOfTwo_28 : decode cX12_worstOfTwo 28 = .ok (.lload_n 3, 1) := by decide +kernel
theorem dX12_worstOfTwo_29 : decode cX12_worstOfTwo 29 = .ok (.invokevirtual 360, 3) := by decide +kernel
theorem dX12_worstOfTwo_32 : decode cX12_worstOfTwo 32 = .ok (.lreturn, 1) := by decide +kernel
theorem dX12_firstOfTwo_0 : decode cX12_firstOfTwo 0 = .ok (.aload_n 0, 1) := by decide +kernel
theorem dX12_firstOfTwo_1 : decode cX12_firstOfTwo 1 = .ok (.invokevirtual 193, 3) := by decide +kernel
theorem dX12_firstOfTwo_4 : decode cX12_firstOfTwo 4 = .ok (.lstore_n 1, 1) := by decide +kernel
theorem dX12_firstOfTwo_5 : decode cX12_firstOfTwo 5 = .ok (.aload_n 0, 1) := by decide +kernel
theorem dX12_firstOfTwo_6 : decode cX12_firstOfTwo 6 = .ok (.invokevirtual 357, 3) := by decide +kernel
theorem dX12_firstOfTwo_9 : decode cX12_firstOfTwo 9 = .ok (.lload_n 1, 1) := by decide +kernel
theorem dX12_firstOfTwo_10 : decode cX12_firstOfTwo 10 = .ok (.lstore_n 3, 1) := by decide +kernel
theorem dX12_firstOfTwo_11 : decode cX12_firstOfTwo 11 = .ok (.iconst (-1), 1) := by decide +kernel
theorem dX12_firstOfTwo_12 : decode cX12_firstOfTwo 12 = .ok (.istore 5, 2) := by decide +kernel
theorem dX12_firstOfTwo_14 : decode cX12_firstOfTwo 14 = .ok (.iconst 0, 1) := by decide +kernel
theorem dX12_firstOfTwo_15 : decode cX12_firstOfTwo 15 = .ok (.istore 6, 2) := by decide +kernel
theorem dX12_firstOfTwo_17 : decode cX12_firstOfTwo 17 = .ok (.iload 6, 2) := by decide +kernel
theorem dX12_firstOfTwo_19 : decode cX12_firstOfTwo 19 = .ok (.iconst 5, 1) := by decide +kernel
theorem dX12_firstOfTwo_20 : decode cX12_firstOfTwo 20 = .ok (.aload_n 0, 1) := by decide +kernel
theorem dX12_firstOfTwo_21 : decode cX12_firstOfTwo 21 = .ok (.getfield 124, 3) := by decide +kernel
theorem dX12_firstOfTwo_24 : decode cX12_firstOfTwo 24 = .ok (.imul, 1) := by decide +kernel
theorem dX12_firstOfTwo_25 : decode cX12_firstOfTwo 25 = .ok (.if_icmp .ge 45, 3) := by decide +kernel
theorem dX12_firstOfTwo_28 : decode cX12_firstOfTwo 28 = .ok (.aload_n 0, 1) := by decide +kernel
theorem dX12_firstOfTwo_29 : decode cX12_firstOfTwo 29 = .ok (.iload 6, 2) := by decide +kernel
theorem dX12_firstOfTwo_31 : decode cX12_firstOfTwo 31 = .ok (.lload_n 1, 1) := by decide +kernel
theorem dX12_firstOfTwo_32 : decode cX12_firstOfTwo 32 = .ok (.invokevirtual 360, 3) := by decide +kernel
theorem dX12_firstOfTwo_35 : decode cX12_firstOfTwo 35 = .ok (.lstore 7, 2) := by decide +kernel
theorem dX12_firstOfTwo_37 : decode cX12_firstOfTwo 37 = .ok (.lload 7, 2) := by decide +kernel
theorem dX12_firstOfTwo_39 : decode cX12_firstOfTwo 39 = .ok (.lload_n 3, 1) := by decide +kernel
theorem dX12_firstOfTwo_40 : decode cX12_firstOfTwo 40 = .ok (.lcmp, 1) := by decide +kernel
theorem dX12_firstOfTwo_41 : decode cX12_firstOfTwo 41 = .ok (.ifCond .lt 6, 3) := by decide +kernel
theorem dX12_firstOfTwo_44 : decode cX12_firstOfTwo 44 = .ok (.goto 20, 3) := by decide +kernel
theorem dX12_firstOfTwo_47 : decode cX12_firstOfTwo 47 = .ok (.lload 7, 2) := by decide +kernel
theorem dX12_firstOfTwo_49 : decode cX12_firstOfTwo 49 = .ok (.lstore_n 3, 1) := by decide +kernel
theorem dX12_firstOfTwo_50 : decode cX12_firstOfTwo 50 = .ok (.bipush 10, 2) := by decide +kernel
theorem dX12_firstOfTwo_52 : decode cX12_firstOfTwo 52 = .ok (.iload 6, 2) := by decide +kernel
theorem dX12_firstOfTwo_54 : decode cX12_firstOfTwo 54 = .ok (.iconst 5, 1) := by decide +kernel
theorem dX12_firstOfTwo_55 : decode cX12_firstOfTwo 55 = .ok (.idiv, 1) := by decide +kernel
theorem dX12_firstOfTwo_56 : decode cX12_firstOfTwo 56 = .ok (.imul, 1) := by decide +kernel
theorem dX12_firstOfTwo_57 : decode cX12_firstOfTwo 57 = .ok (.iload 6, 2) := by decide +kernel
theorem dX12_firstOfTwo_59 : decode cX12_firstOfTwo 59 = .ok (.iconst 5, 1) := by decide +kernel
theorem dX12_firstOfTwo_60 : decode cX12_firstOfTwo 60 = .ok (.irem, 1) := by decide +kernel
theorem dX12_firstOfTwo_61 : decode cX12_firstOfTwo 61 = .ok (.iadd, 1) := by decide +kernel
theorem dX12_firstOfTwo_62 : decode cX12_firstOfTwo 62 = .ok (.istore 5, 2) := by decide +kernel
theorem dX12_firstOfTwo_64 : decode cX12_firstOfTwo 64 = .ok (.iinc 6 1, 3) := by decide +kernel
theorem dX12_firstOfTwo_67 : decode cX12_firstOfTwo 67 = .ok (.goto (-50), 3) := by decide +kernel
theorem dX12_firstOfTwo_70 : decode cX12_firstOfTwo 70 = .ok (.iload 5, 2) := by decide +kernel
theorem dX12_firstOfTwo_72 : decode cX12_firstOfTwo 72 = .ok (.ireturn, 1) := by decide +kernel
theorem dX12_sherd_0 : decode cX12_sherd 0 = .ok (.iload_n 1, 1) := by decide +kernel
theorem dX12_sherd_1 : decode cX12_sherd 1 = .ok (.iconst 0, 1) := by decide +kernel
theorem dX12_sherd_2 : decode cX12_sherd 2 = .ok (.sipush 9999, 3) := by decide +kernel
theorem dX12_sherd_5 : decode cX12_sherd 5 = .ok (.invokestatic 148, 3) := by decide +kernel
theorem dX12_sherd_8 : decode cX12_sherd 8 = .ok (.ifCond .eq 14, 3) := by decide +kernel
theorem dX12_sherd_11 : decode cX12_sherd 11 = .ok (.iload_n 2, 1) := by decide +kernel
theorem dX12_sherd_12 : decode cX12_sherd 12 = .ok (.iconst 0, 1) := by decide +kernel
theorem dX12_sherd_13 : decode cX12_sherd 13 = .ok (.sipush 9999, 3) := by decide +kernel
theorem dX12_sherd_16 : decode cX12_sherd 16 = .ok (.invokestatic 148, 3) := by decide +kernel
theorem dX12_sherd_19 : decode cX12_sherd 19 = .ok (.ifCond .ne 6, 3) := by decide +kernel
theorem dX12_sherd_22 : decode cX12_sherd 22 = .ok (.bipush (-2), 2) := by decide +kernel
theorem dX12_sherd_24 : decode cX12_sherd 24 = .ok (.ireturn, 1) := by decide +kernel
theorem dX12_sherd_25 : decode cX12_sherd 25 = .ok (.aload_n 0, 1) := by decide +kernel
theorem dX12_sherd_26 : decode cX12_sherd 26 = .ok (.getfield 364, 3) := by decide +kernel
theorem dX12_sherd_29 : decode cX12_sherd 29 = .ok (.bipush 8, 2) := by decide +kernel
theorem dX12_sherd_31 : decode cX12_sherd 31 = .ok (.if_icmp .ne 6, 3) := by decide +kernel
theorem dX12_sherd_34 : decode cX12_sherd 34 = .ok (.bipush (-4), 2) := by decide +kernel
theorem dX12_sherd_36 : decode cX12_sherd 36 = .ok (.ireturn, 1) := by decide +kernel
theorem dX12_sherd_37 : decode cX12_sherd 37 = .ok (.aload_n 0, 1) := by decide +kernel
theorem dX12_sherd_38 : decode cX12_sherd 38 = .ok (.getfield 94, 3) := by decide +kernel
theorem dX12_sherd_41 : decode cX12_sherd 41 = .ok (.aload_n 0, 1) := by decide +kernel
theorem dX12_sherd_42 : decode cX12_sherd 42 = .ok (.getfield 364, 3) := by decide +kernel
theorem dX12_sherd_45 : decode cX12_sherd 45 = .ok (.iload_n 1, 1) := by decide +kernel
theorem dX12_sherd_46 : decode cX12_sherd 46 = .ok (.iastore, 1) := by decide +kernel
theorem dX12_sherd_47 : decode cX12_sherd 47 = .ok (.aload_n 0, 1) := by decide +kernel
theorem dX12_sherd_48 : decode cX12_sherd 48 = .ok (.getfield 97, 3) := by decide +kernel
theorem dX12_sherd_51 : decode cX12_sherd 51 = .ok (.aload_n 0, 1) := by decide +kernel
theorem dX12_sherd_52 : decode cX12_sherd 52 = .ok (.getfield 364, 3) := by decide +kernel
theorem dX12_sherd_55 : decode cX12_sherd 55 = .ok (.iload_n 2, 1) := by decide +kernel
theorem dX12_sherd_56 : decode cX12_sherd 56 = .ok (.iastore, 1) := by decide +kernel
theorem dX12_sherd_57 : decode cX12_sherd 57 = .ok (.aload_n 0, 1) := by decide +kernel
theorem dX12_sherd_58 : decode cX12_sherd 58 = .ok (.dup, 1) := by decide +kernel
theorem dX12_sherd_59 : decode cX12_sherd 59 = .ok (.getfield 364, 3) := by decide +kernel
theorem dX12_sherd_62 : decode cX12_sherd 62 = .ok (.iconst 1, 1) := by decide +kernel
theorem dX12_sherd_63 : decode cX12_sherd 63 = .ok (.iadd, 1) := by decide +kernel
theorem dX12_sherd_64 : decode cX12_sherd 64 = .ok (.putfield 364, 3) := by decide +kernel
theorem dX12_sherd_67 : decode cX12_sherd 67 = .ok (.aload_n 0, 1) := by decide +kernel
theorem dX12_sherd_68 : decode cX12_sherd 68 = .ok (.getfield 364, 3) := by decide +kernel
theorem dX12_sherd_71 : decode cX12_sherd 71 = .ok (.iconst 1, 1) := by decide +kernel
theorem dX12_sherd_72 : decode cX12_sherd 72 = .ok (.isub, 1) := by decide +kernel
theorem dX12_sherd_73 : decode cX12_sherd 73 = .ok (.ireturn, 1) := by decide +kernel
theorem dX12_set_0 : decode cX12_set 0 = .ok (.iload_n 1, 1) := by decide +kernel
theorem dX12_set_1 : decode cX12_set 1 = .ok (.ifCond .ne 15, 3) := by decide +kernel
theorem dX12_set_4 : decode cX12_set 4 = .ok (.iload_n 2, 1) := by decide +kernel
theorem dX12_set_5 : decode cX12_set 5 = .ok (.iconst 0, 1) := by decide +kernel
theorem dX12_set_6 : decode cX12_set 6 = .ok (.iconst 4, 1) := by decide +kernel
theorem dX12_set_7 : decode cX12_set 7 = .ok (.invokestatic 148, 3) := by decide +kernel
theorem dX12_set_10 : decode cX12_set 10 = .ok (.ifCond .ne 24, 3) := by decide +kernel
theorem dX12_set_13 : decode cX12_set 13 = .ok (.goto 18, 3) := by decide +kernel
theorem dX12_set_16 : decode cX12_set 16 = .ok (.iload_n 1, 1) := by decide +kernel
theorem dX12_set_17 : decode cX12_set 17 = .ok (.iconst 1, 1) := by decide +kernel
theorem dX12_set_18 : decode cX12_set 18 = .ok (.if_icmp .ne 13, 3) := by decide +kernel
theorem dX12_set_21 : decode cX12_set 21 = .ok (.iload_n 2, 1) := by decide +kernel
theorem dX12_set_22 : decode cX12_set 22 = .ok (.iconst 1, 1) := by decide +kernel
theorem dX12_set_23 : decode cX12_set 23 = .ok (.bipush 10, 2) := by decide +kernel
theorem dX12_set_25 : decode cX12_set 25 = .ok (.invokestatic 148, 3) := by decide +kernel
theorem dX12_set_28 : decode cX12_set 28 = .ok (.ifCond .ne 6, 3) := by decide +kernel
theorem dX12_set_31 : decode cX12_set 31 = .ok (.bipush (-2), 2) := by decide +kernel
theorem dX12_set_33 : decode cX12_set 33 = .ok (.ireturn, 1) := by decide +kernel
theorem dX12_set_34 : decode cX12_set 34 = .ok (.iload_n 1, 1) := by decide +kernel
theorem dX12_set_35 : decode cX12_set 35 = .ok (.ifCond .ne 10, 3) := by decide +kernel
theorem dX12_set_38 : decode cX12_set 38 = .ok (.aload_n 0, 1) := by decide +kernel
theorem dX12_set_39 : decode cX12_set 39 = .ok (.getfield 367, 3) := by decide +kernel
theorem dX12_set_42 : decode cX12_set 42 = .ok (.goto 7, 3) := by decide +kernel
theorem dX12_set_45 : decode cX12_set 45 = .ok (.aload_n 0, 1) := by decide +kernel
theorem dX12_set_46 : decode cX12_set 46 = .ok (.getfield 143, 3) := by decide +kernel
theorem dX12_set_49 : decode cX12_set 49 = .ok (.istore_n 3, 1) := by decide +kernel
theorem dX12_set_50 : decode cX12_set 50 = .ok (.iload_n 1, 1) := by decide +kernel
theorem dX12_set_51 : decode cX12_set 51 = .ok (.ifCond .ne 11, 3) := by decide +kernel
theorem dX12_set_54 : decode cX12_set 54 = .ok (.aload_n 0, 1) := by decide +kernel
theorem dX12_set_55 : decode cX12_set 55 = .ok (.iload_n 2, 1) := by decide +kernel
theorem dX12_set_56 : decode cX12_set 56 = .ok (.putfield 367, 3) := by decide +kernel
theorem dX12_set_59 : decode cX12_set 59 = .ok (.goto 8, 3) := by decide +kernel
theorem dX12_set_62 : decode cX12_set 62 = .ok (.aload_n 0, 1) := by decide +kernel
theorem dX12_set_63 : decode cX12_set 63 = .ok (.iload_n 2, 1) := by decide +kernel
theorem dX12_set_64 : decode cX12_set 64 = .ok (.putfield 143, 3) := by decide +kernel
theorem dX12_set_67 : decode cX12_set 67 = .ok (.iload_n 3, 1) := by decide +kernel
theorem dX12_set_68 : decode cX12_set 68 = .ok (.ireturn, 1) := by decide +kernel
theorem dX12_isJoined_0 : decode cX12_isJoined 0 = .ok (.iconst 0, 1) := by decide +kernel
theorem dX12_isJoined_1 : decode cX12_isJoined 1 = .ok (.istore_n 3, 1) := by decide +kernel
theorem dX12_isJoined_2 : decode cX12_isJoined 2 = .ok (.aload_n 0, 1) := by decide +kernel
theorem dX12_isJoined_3 : decode cX12_isJoined 3 = .ok (.getfield 97, 3) := by decide +kernel
theorem dX12_isJoined_6 : decode cX12_isJoined 6 = .ok (.iload_n 1, 1) := by decide +kernel
theorem dX12_isJoined_7 : decode cX12_isJoined 7 = .ok (.iaload, 1) := by decide +kernel
theorem dX12_isJoined_8 : decode cX12_isJoined 8 = .ok (.istore 4, 2) := by decide +kernel
theorem dX12_isJoined_10 : decode cX12_isJoined 10 = .ok (.aload_n 0, 1) := by decide +kernel
theorem dX12_isJoined_11 : decode cX12_isJoined 11 = .ok (.getfield 94, 3) := by decide +kernel
theorem dX12_isJoined_14 : decode cX12_isJoined 14 = .ok (.iload_n 2, 1) := by decide +kernel
theorem dX12_isJoined_15 : decode cX12_isJoined 15 = .ok (.iaload, 1) := by decide +kernel
theorem dX12_isJoined_16 : decode cX12_isJoined 16 = .ok (.istore 5, 2) := by decide +kernel
theorem dX12_isJoined_18 : decode cX12_isJoined 18 = .ok (.iconst 0, 1) := by decide +kernel
theorem dX12_isJoined_19 : decode cX12_isJoined 19 = .ok (.istore 6, 2) := by decide +kernel
theorem dX12_isJoined_21 : decode cX12_isJoined 21 = .ok (.iload 6, 2) := by decide +kernel
theorem dX12_isJoined_23 : decode cX12_isJoined 23 = .ok (.iconst 4, 1) := by decide +kernel
theorem dX12_isJoined_24 : decode cX12_isJoined 24 = .ok (.if_icmp .ge 47, 3) := by decide +kernel
theorem dX12_isJoined_27 : decode cX12_isJoined 27 = .ok (.iload_n 3, 1) := by decide +kernel
theorem dX12_isJoined_28 : decode cX12_isJoined 28 = .ok (.iload 4, 2) := by decide +kernel
theorem dX12_isJoined_30 : decode cX12_isJoined 30 = .ok (.bipush 10, 2) := by decide +kernel
theorem dX12_isJoined_32 : decode cX12_isJoined 32 = .ok (.irem, 1) := by decide +kernel
theorem dX12_isJoined_33 : decode cX12_isJoined 33 = .ok (.iload 5, 2) := by decide +kernel
theorem dX12_isJoined_35 : decode cX12_isJoined 35 = .ok (.bipush 10, 2) := by decide +kernel
theorem dX12_isJoined_37 : decode cX12_isJoined 37 = .ok (.irem, 1) := by decide +kernel
theorem dX12_isJoined_38 : decode cX12_isJoined 38 = .ok (.iadd, 1) := by decide +kernel
theorem dX12_isJoined_39 : decode cX12_isJoined 39 = .ok (.bipush 9, 2) := by decide +kernel
theorem dX12_isJoined_41 : decode cX12_isJoined 41 = .ok (.if_icmp .eq 7, 3) := by decide +kernel
theorem dX12_isJoined_44 : decode cX12_isJoined 44 = .ok (.iconst 1, 1) := by decide +kernel
theorem dX12_isJoined_45 : decode cX12_isJoined 45 = .ok (.goto 4, 3) := by decide +kernel
theorem dX12_isJoined_48 : decode cX12_isJoined 48 = .ok (.iconst 0, 1) := by decide +kernel
theorem dX12_isJoined_49 : decode cX12_isJoined 49 = .ok (.iadd, 1) := by decide +kernel
theorem dX12_isJoined_50 : decode cX12_isJoined 50 = .ok (.istore_n 3, 1) := by decide +kernel
theorem dX12_isJoined_51 : decode cX12_isJoined 51 = .ok (.iload 4, 2) := by decide +kernel
theorem dX12_isJoined_53 : decode cX12_isJoined 53 = .ok (.bipush 10, 2) := by decide +kernel
theorem dX12_isJoined_55 : decode cX12_isJoined 55 = .ok (.idiv, 1) := by decide +kernel
theorem dX12_isJoined_56 : decode cX12_isJoined 56 = .ok (.istore 4, 2) := by decide +kernel
theorem dX12_isJoined_58 : decode cX12_isJoined 58 = .ok (.iload 5, 2) := by decide +kernel
theorem dX12_isJoined_60 : decode cX12_isJoined 60 = .ok (.bipush 10, 2) := by decide +kernel
theorem dX12_isJoined_62 : decode cX12_isJoined 62 = .ok (.idiv, 1) := by decide +kernel
theorem dX12_isJoined_63 : decode cX12_isJoined 63 = .ok (.istore 5, 2) := by decide +kernel
theorem dX12_isJoined_65 : decode cX12_isJoined 65 = .ok (.iinc 6 1, 3) := by decide +kernel
theorem dX12_isJoined_68 : decode cX12_isJoined 68 = .ok (.goto (-47), 3) := by decide +kernel
theorem dX12_isJoined_71 : decode cX12_isJoined 71 = .ok (.iload_n 3, 1) := by decide +kernel
theorem dX12_isJoined_72 : decode cX12_isJoined 72 = .ok (.aload_n 0, 1) := by decide +kernel
theorem dX12_isJoined_73 : decode cX12_isJoined 73 = .ok (.getfield 367, 3) := by decide +kernel
theorem dX12_isJoined_76 : decode cX12_isJoined 76 = .ok (.if_icmp .gt 7, 3) := by decide +kernel
theorem dX12_isJoined_79 : decode cX12_isJoined 79 = .ok (.iconst 1, 1) := by decide +kernel
theorem dX12_isJoined_80 : decode cX12_isJoined 80 = .ok (.goto 4, 3) := by decide +kernel
theorem dX12_isJoined_83 : decode cX12_isJoined 83 = .ok (.iconst 0, 1) := by decide +kernel
theorem dX12_isJoined_84 : decode cX12_isJoined 84 = .ok (.ireturn, 1) := by decide +kernel
theorem dX12_joined_0 : decode cX12_joined 0 = .ok (.iload_n 1, 1) := by decide +kernel
theorem dX12_joined_1 : decode cX12_joined 1 = .ok (.iconst 0, 1) := by decide +kernel
theorem dX12_joined_2 : decode cX12_joined 2 = .ok (.aload_n 0, 1) := by decide +kernel
theorem dX12_joined_3 : decode cX12_joined 3 = .ok (.getfield 364, 3) := by decide +kernel
theorem dX12_joined_6 : decode cX12_joined 6 = .ok (.iconst 1, 1) := by decide +kernel
theorem dX12_joined_7 : decode cX12_joined 7 = .ok (.isub, 1) := by decide +kernel
theorem dX12_joined_8 : decode cX12_joined 8 = .ok (.invokestatic 148, 3) := by decide +kernel
theorem dX12_joined_11 : decode cX12_joined 11 = .ok (.ifCond .eq 22, 3) := by decide +kernel
theorem dX12_joined_14 : decode cX12_joined 14 = .ok (.iload_n 2, 1) := by decide +kernel
theorem dX12_joined_15 : decode cX12_joined 15 = .ok (.iconst 0, 1) := by decide +kernel
theorem dX12_joined_16 : decode cX12_joined 16 = .ok (.aload_n 0, 1) := by decide +kernel
theorem dX12_joined_17 : decode cX12_joined 17 = .ok (.getfield 364, 3) := by decide +kernel
theorem dX12_joined_20 : decode cX12_joined 20 = .ok (.iconst 1, 1) := by decide +kernel
theorem dX12_joined_21 : decode cX12_joined 21 = .ok (.isub, 1) := by decide +kernel
theorem dX12_joined_22 : decode cX12_joined 22 = .ok (.invokestatic 148, 3) := by decide +kernel
theorem dX12_joined_25 : decode cX12_joined 25 = .ok (.ifCond .eq 8, 3) := by decide +kernel
theorem dX12_joined_28 : decode cX12_joined 28 = .ok (.iload_n 1, 1) := by decide +kernel
theorem dX12_joined_29 : decode cX12_joined 29 = .ok (.iload_n 2, 1) := by decide +kernel
theorem dX12_joined_30 : decode cX12_joined 30 = .ok (.if_icmp .ne 6, 3) := by decide +kernel
theorem dX12_joined_33 : decode cX12_joined 33 = .ok (.bipush (-2), 2) := by decide +kernel
theorem dX12_joined_35 : decode cX12_joined 35 = .ok (.ireturn, 1) := by decide +kernel
theorem dX12_joined_36 : decode cX12_joined 36 = .ok (.aload_n 0, 1) := by decide +kernel
theorem dX12_joined_37 : decode cX12_joined 37 = .ok (.iload_n 1, 1) := by decide +kernel
theorem dX12_joined_38 : decode cX12_joined 38 = .ok (.iload_n 2, 1) := by decide +kernel
theorem dX12_joined_39 : decode cX12_joined 39 = .ok (.invokevirtual 370, 3) := by decide +kernel
theorem dX12_joined_42 : decode cX12_joined 42 = .ok (.ifCond .eq 7, 3) := by decide +kernel
theorem dX12_joined_45 : decode cX12_joined 45 = .ok (.iconst 1, 1) := by decide +kernel
theorem dX12_joined_46 : decode cX12_joined 46 = .ok (.goto 4, 3) := by decide +kernel
theorem dX12_joined_49 : decode cX12_joined 49 = .ok (.iconst 0, 1) := by decide +kernel
theorem dX12_joined_50 : decode cX12_joined 50 = .ok (.ireturn, 1) := by decide +kernel
theorem dX12_findRow_0 : decode cX12_findRow 0 = .ok (.iconst 1, 1) := by decide +kernel
theorem dX12_findRow_1 : decode cX12_findRow 1 = .ok (.aload_n 0, 1) := by decide +kernel
theorem dX12_findRow_2 : decode cX12_findRow 2 = .ok (.getfield 364, 3) := by decide +kernel
theorem dX12_findRow_5 : decode cX12_findRow 5 = .ok (.ishl, 1) := by decide +kernel
theorem dX12_findRow_6 : decode cX12_findRow 6 = .ok (.iconst 1, 1) := by decide +kernel
theorem dX12_findRow_7 : decode cX12_findRow 7 = .ok (.isub, 1) := by decide +kernel
theorem dX12_findRow_8 : decode cX12_findRow 8 = .ok (.istore_n 1, 1) := by decide +kernel
theorem dX12_findRow_9 : decode cX12_findRow 9 = .ok (.iload_n 1, 1) := by decide +kernel
theorem dX12_findRow_10 : decode cX12_findRow 10 = .ok (.istore_n 2, 1) := by decide +kernel
theorem dX12_findRow_11 : decode cX12_findRow 11 = .ok (.iload_n 2, 1) := by decide +kernel
theorem dX12_findRow_12 : decode cX12_findRow 12 = .ok (.ifCond .le 119, 3) := by decide +kernel
theorem dX12_findRow_15 : decode cX12_findRow 15 = .ok (.iconst 0, 1) := by decide +kernel
theorem dX12_findRow_16 : decode cX12_findRow 16 = .ok (.istore_n 3, 1) := by decide +kernel
theorem dX12_findRow_17 : decode cX12_findRow 17 = .ok (.iload_n 3, 1) := by decide +kernel
theorem dX12_findRow_18 : decode cX12_findRow 18 = .ok (.aload_n 0, 1) := by decide +kernel
theorem dX12_findRow_19 : decode cX12_findRow 19 = .ok (.getfield 364, 3) := by decide +kernel
theorem dX12_findRow_22 : decode cX12_findRow 22 = .ok (.if_icmp .ge 103, 3) := by decide +kernel
theorem dX12_findRow_25 : decode cX12_findRow 25 = .ok (.iconst 0, 1) := by decide +kernel
theorem dX12_findRow_26 : decode cX12_findRow 26 = .ok (.istore 4, 2) := by decide +kernel
theorem dX12_findRow_28 : decode cX12_findRow 28 = .ok (.iconst 0, 1) := by decide +kernel
theorem dX12_findRow_29 : decode cX12_findRow 29 = .ok (.istore 5, 2) := by decide +kernel
theorem dX12_findRow_31 : decode cX12_findRow 31 = .ok (.iload 5, 2) := by decide +kernel
theorem dX12_findRow_33 : decode cX12_findRow 33 = .ok (.aload_n 0, 1) := by decide +kernel
theorem dX12_findRow_34 : decode cX12_findRow 34 = .ok (.getfield 364, 3) := by decide +kernel
theorem dX12_findRow_37 : decode cX12_findRow 37 = .ok (.if_icmp .ge 69, 3) := by decide +kernel
theorem dX12_findRow_40 : decode cX12_findRow 40 = .ok (.iload_n 2, 1) := by decide +kernel
theorem dX12_findRow_41 : decode cX12_findRow 41 = .ok (.iload 5, 2) := by decide +kernel
theorem dX12_findRow_43 : decode cX12_findRow 43 = .ok (.ishr, 1) := by decide +kernel
theorem dX12_findRow_44 : decode cX12_findRow 44 = .ok (.iconst 1, 1) := by decide +kernel
theorem dX12_findRow_45 : decode cX12_findRow 45 = .ok (.iand, 1) := by decide +kernel
theorem dX12_findRow_46 : decode cX12_findRow 46 = .ok (.iconst 1, 1) := by decide +kernel
theorem dX12_findRow_47 : decode cX12_findRow 47 = .ok (.if_icmp .eq 53, 3) := by decide +kernel
theorem dX12_findRow_50 : decode cX12_findRow 50 = .ok (.aload_n 0, 1) := by decide +kernel
theorem dX12_findRow_51 : decode cX12_findRow 51 = .ok (.iload_n 3, 1) := by decide +kernel
theorem dX12_findRow_52 : decode cX12_findRow 52 = .ok (.iload 5, 2) := by decide +kernel
theorem dX12_findRow_54 : decode cX12_findRow 54 = .ok (.invokevirtual 370, 3) := by decide +kernel
theorem dX12_findRow_57 : decode cX12_findRow 57 = .ok (.ifCond .ne 6, 3) := by decide +kernel
theorem dX12_findRow_60 : decode cX12_findRow 60 = .ok (.goto 40, 3) := by decide +kernel
theorem dX12_findRow_63 : decode cX12_findRow 63 = .ok (.iconst 1, 1) := by decide +kernel
theorem dX12_findRow_64 : decode cX12_findRow 64 = .ok (.aload_n 0, 1) := by decide +kernel
theorem dX12_findRow_65 : decode cX12_findRow 65 = .ok (.getfield 100, 3) := by decide +kernel
theorem dX12_findRow_68 : decode cX12_findRow 68 = .ok (.bipush 8, 2) := by decide +kernel
theorem dX12_findRow_70 : decode cX12_findRow 70 = .ok (.iload_n 2, 1) := by decide +kernel
theorem dX12_findRow_71 : decode cX12_findRow 71 = .ok (.iconst 1, 1) := by decide +kernel
theorem dX12_findRow_72 : decode cX12_findRow 72 = .ok (.iload 5, 2) := by decide +kernel
theorem dX12_findRow_74 : decode cX12_findRow 74 = .ok (.ishl, 1) := by decide +kernel
theorem dX12_findRow_75 : decode cX12_findRow 75 = .ok (.ior, 1) := by decide +kernel
theorem dX12_findRow_76 : decode cX12_findRow 76 = .ok (.imul, 1) := by decide +kernel
theorem dX12_findRow_77 : decode cX12_findRow 77 = .ok (.iload 5, 2) := by decide +kernel
theorem dX12_findRow_79 : decode cX12_findRow 79 = .ok (.iadd, 1) := by decide +kernel
theorem dX12_findRow_80 : decode cX12_findRow 80 = .ok (.iaload, 1) := by decide +kernel
theorem dX12_findRow_81 : decode cX12_findRow 81 = .ok (.iadd, 1) := by decide +kernel
theorem dX12_findRow_82 : decode cX12_findRow 82 = .ok (.istore 6, 2) := by decide +kernel
theorem dX12_findRow_84 : decode cX12_findRow 84 = .ok (.iload 6, 2) := by decide +kernel
theorem dX12_findRow_86 : decode cX12_findRow 86 = .ok (.iload 4, 2) := by decide +kernel
theorem dX12_findRow_88 : decode cX12_findRow 88 = .ok (.if_icmp .le 8, 3) := by decide +kernel
theorem dX12_findRow_91 : decode cX12_findRow 91 = .ok (.iload 6, 2) := by decide +kernel
theorem dX12_findRow_93 : decode cX12_findRow 93 = .ok (.goto 5, 3) := by decide +kernel
theorem dX12_findRow_96 : decode cX12_findRow 96 = .ok (.iload 4, 2) := by decide +kernel
theorem dX12_findRow_98 : decode cX12_findRow 98 = .ok (.istore 4, 2) := by decide +kernel
theorem dX12_findRow_100 : decode cX12_findRow 100 = .ok (.iinc 5 1, 3) := by decide +kernel
theorem dX12_findRow_103 : decode cX12_findRow 103 = .ok (.goto (-72), 3) := by decide +kernel
theorem dX12_findRow_106 : decode cX12_findRow 106 = .ok (.aload_n 0, 1) := by decide +kernel
theorem dX12_findRow_107 : decode cX12_findRow 107 = .ok (.getfield 100, 3) := by decide +kernel
theorem dX12_findRow_110 : decode cX12_findRow 110 = .ok (.bipush 8, 2) := by decide +kernel
theorem dX12_findRow_112 : decode cX12_findRow 112 = .ok (.iload_n 2, 1) := by decide +kernel
theorem dX12_findRow_113 : decode cX12_findRow 113 = .ok (.imul, 1) := by decide +kernel
theorem dX12_findRow_114 : decode cX12_findRow 114 = .ok (.iload_n 3, 1) := by decide +kernel
theorem dX12_findRow_115 : decode cX12_findRow 115 = .ok (.iadd, 1) := by decide +kernel
theorem dX12_findRow_116 : decode cX12_findRow 116 = .ok (.iload 4, 2) := by decide +kernel
theorem dX12_findRow_118 : decode cX12_findRow 118 = .ok (.iastore, 1) := by decide +kernel
theorem dX12_findRow_119 : decode cX12_findRow 119 = .ok (.iinc 3 1, 3) := by decide +kernel
theorem dX12_findRow_122 : decode cX12_findRow 122 = .ok (.goto (-105), 3) := by decide +kernel
theorem dX12_findRow_125 : decode cX12_findRow 125 = .ok (.iinc 2 (-1), 3) := by decide +kernel
theorem dX12_findRow_128 : decode cX12_findRow 128 = .ok (.goto (-117), 3) := by decide +kernel
theorem dX12_findRow_131 : decode cX12_findRow 131 = .ok (.return_, 1) := by decide +kernel
theorem dX12_row_0 : decode cX12_row 0 = .ok (.aload_n 0, 1) := by decide +kernel
theorem dX12_row_1 : decode cX12_row 1 = .ok (.invokevirtual 373, 3) := by decide +kernel
theorem dX12_row_4 : decode cX12_row 4 = .ok (.iconst 0, 1) := by decide +kernel
theorem dX12_row_5 : decode cX12_row 5 = .ok (.istore_n 2, 1) := by decide +kernel
theorem dX12_row_6 : decode cX12_row 6 = .ok (.iconst 0, 1) := by decide +kernel
theorem dX12_row_7 : decode cX12_row 7 = .ok (.istore_n 3, 1) := by decide +kernel
theorem dX12_row_8 : decode cX12_row 8 = .ok (.iload_n 3, 1) := by decide +kernel
theorem dX12_row_9 : decode cX12_row 9 = .ok (.aload_n 0, 1) := by decide +kernel
theorem dX12_row_10 : decode cX12_row 10 = .ok (.getfield 364, 3) := by decide +kernel
theorem dX12_row_13 : decode cX12_row 13 = .ok (.if_icmp .ge 39, 3) := by decide +kernel
theorem dX12_row_16 : decode cX12_row 16 = .ok (.iconst 1, 1) := by decide +kernel
theorem dX12_row_17 : decode cX12_row 17 = .ok (.aload_n 0, 1) := by decide +kernel
theorem dX12_row_18 : decode cX12_row 18 = .ok (.getfield 100, 3) := by decide +kernel
theorem dX12_row_21 : decode cX12_row 21 = .ok (.bipush 8, 2) := by decide +kernel
theorem dX12_row_23 : decode cX12_row 23 = .ok (.iconst 1, 1) := by decide +kernel
theorem dX12_row_24 : decode cX12_row 24 = .ok (.iload_n 3, 1) := by decide +kernel
theorem dX12_row_25 : decode cX12_row 25 = .ok (.ishl, 1) := by decide +kernel
theorem dX12_row_26 : decode cX12_row 26 = .ok (.imul, 1) := by decide +kernel
theorem dX12_row_27 : decode cX12_row 27 = .ok (.iload_n 3, 1) := by decide +kernel
theorem dX12_row_28 : decode cX12_row 28 = .ok (.iadd, 1) := by decide +kernel
theorem dX12_row_29 : decode cX12_row 29 = .ok (.iaload, 1) := by decide +kernel
theorem dX12_row_30 : decode cX12_row 30 = .ok (.iadd, 1) := by decide +kernel
theorem dX12_row_31 : decode cX12_row 31 = .ok (.istore 4, 2) := by decide +kernel
theorem dX12_row_33 : decode cX12_row 33 = .ok (.iload 4, 2) := by decide +kernel
theorem dX12_row_35 : decode cX12_row 35 = .ok (.iload_n 2, 1) := by decide +kernel
theorem dX12_row_36 : decode cX12_row 36 = .ok (.if_icmp .le 8, 3) := by decide +kernel
theorem dX12_row_39 : decode cX12_row 39 = .ok (.iload 4, 2) := by decide +kernel
theorem dX12_row_41 : decode cX12_row 41 = .ok (.goto 4, 3) := by decide +kernel
theorem dX12_row_44 : decode cX12_row 44 = .ok (.iload_n 2, 1) := by decide +kernel
theorem dX12_row_45 : decode cX12_row 45 = .ok (.istore_n 2, 1) := by decide +kernel
theorem dX12_row_46 : decode cX12_row 46 = .ok (.iinc 3 1, 3) := by decide +kernel
theorem dX12_row_49 : decode cX12_row 49 = .ok (.goto (-41), 3) := by decide +kernel
theorem dX12_row_52 : decode cX12_row 52 = .ok (.iload_n 1, 1) := by decide +kernel
theorem dX12_row_53 : decode cX12_row 53 = .ok (.iconst (-1), 1) := by decide +kernel
theorem dX12_row_54 : decode cX12_row 54 = .ok (.if_icmp .ne 5, 3) := by decide +kernel
theorem dX12_row_57 : decode cX12_row 57 = .ok (.iload_n 2, 1) := by decide +kernel
theorem dX12_row_58 : decode cX12_row 58 = .ok (.ireturn, 1) := by decide +kernel
theorem dX12_row_59 : decode cX12_row 59 = .ok (.iload_n 1, 1) := by decide +kernel
theorem dX12_row_60 : decode cX12_row 60 = .ok (.iconst 0, 1) := by decide +kernel
theorem dX12_row_61 : decode cX12_row 61 = .ok (.iload_n 2, 1) := by decide +kernel
theorem dX12_row_62 : decode cX12_row 62 = .ok (.iconst 1, 1) := by decide +kernel
theorem dX12_row_63 : decode cX12_row 63 = .ok (.isub, 1) := by decide +kernel
theorem dX12_row_64 : decode cX12_row 64 = .ok (.invokestatic 148, 3) := by decide +kernel
theorem dX12_row_67 : decode cX12_row 67 = .ok (.ifCond .ne 5, 3) := by decide +kernel
theorem dX12_row_70 : decode cX12_row 70 = .ok (.iconst (-1), 1) := by decide +kernel
theorem dX12_row_71 : decode cX12_row 71 = .ok (.ireturn, 1) := by decide +kernel
theorem dX12_row_72 : decode cX12_row 72 = .ok (.iconst 0, 1) := by decide +kernel
theorem dX12_row_73 : decode cX12_row 73 = .ok (.istore_n 3, 1) := by decide +kernel
theorem dX12_row_74 : decode cX12_row 74 = .ok (.iconst (-1), 1) := by decide +kernel
theorem dX12_row_75 : decode cX12_row 75 = .ok (.istore 4, 2) := by decide +kernel
theorem dX12_row_77 : decode cX12_row 77 = .ok (.iconst 0, 1) := by decide +kernel
theorem dX12_row_78 : decode cX12_row 78 = .ok (.istore 5, 2) := by decide +kernel
theorem dX12_row_80 : decode cX12_row 80 = .ok (.iload 5, 2) := by decide +kernel
theorem dX12_row_82 : decode cX12_row 82 = .ok (.iload_n 1, 1) := by decide +kernel
theorem dX12_row_83 : decode cX12_row 83 = .ok (.if_icmp .gt 81, 3) := by decide +kernel
theorem dX12_row_86 : decode cX12_row 86 = .ok (.iconst 0, 1) := by decide +kernel
theorem dX12_row_87 : decode cX12_row 87 = .ok (.istore 6, 2) := by decide +kernel
theorem dX12_row_89 : decode cX12_row 89 = .ok (.iload_n 3, 1) := by decide +kernel
theorem dX12_row_90 : decode cX12_row 90 = .ok (.iload 6, 2) := by decide +kernel
theorem dX12_row_92 : decode cX12_row 92 = .ok (.ishr, 1) := by decide +kernel
theorem dX12_row_93 : decode cX12_row 93 = .ok (.iconst 1, 1) := by decide +kernel
theorem dX12_row_94 : decode cX12_row 94 = .ok (.iand, 1) := by decide +kernel
theorem dX12_row_95 : decode cX12_row 95 = .ok (.iconst 1, 1) := by decide +kernel
theorem dX12_row_96 : decode cX12_row 96 = .ok (.if_icmp .eq 45, 3) := by decide +kernel
theorem dX12_row_99 : decode cX12_row 99 = .ok (.iload 5, 2) := by decide +kernel
theorem dX12_row_101 : decode cX12_row 101 = .ok (.ifCond .le 14, 3) := by decide +kernel
theorem dX12_row_104 : decode cX12_row 104 = .ok (.aload_n 0, 1) := by decide +kernel
theorem dX12_row_105 : decode cX12_row 105 = .ok (.iload 4, 2) := by decide +kernel
theorem dX12_row_107 : decode cX12_row 107 = .ok (.iload 6, 2) := by decide +kernel
theorem dX12_row_109 : decode cX12_row 109 = .ok (.invokevirtual 370, 3) := by decide +kernel
theorem dX12_row_112 : decode cX12_row 112 = .ok (.ifCond .eq 29, 3) := by decide +kernel
theorem dX12_row_115 : decode cX12_row 115 = .ok (.aload_n 0, 1) := by decide +kernel
theorem dX12_row_116 : decode cX12_row 116 = .ok (.getfield 100, 3) := by decide +kernel
theorem dX12_row_119 : decode cX12_row 119 = .ok (.bipush 8, 2) := by decide +kernel
theorem dX12_row_121 : decode cX12_row 121 = .ok (.iload_n 3, 1) := by decide +kernel
theorem dX12_row_122 : decode cX12_row 122 = .ok (.iconst 1, 1) := by decide +kernel
theorem dX12_row_123 : decode cX12_row 123 = .ok (.iload 6, 2) := by decide +kernel
theorem dX12_row_125 : decode cX12_row 125 = .ok (.ishl, 1) := by decide +kernel
theorem dX12_row_126 : decode cX12_row 126 = .ok (.ior, 1) := by decide +kernel
theorem dX12_row_127 : decode cX12_row 127 = .ok (.imul, 1) := by decide +kernel
theorem dX12_row_128 : decode cX12_row 128 = .ok (.iload 6, 2) := by decide +kernel
theorem dX12_row_130 : decode cX12_row 130 = .ok (.iadd, 1) := by decide +kernel
theorem dX12_row_131 : decode cX12_row 131 = .ok (.iaload, 1) := by decide +kernel
theorem dX12_row_132 : decode cX12_row 132 = .ok (.iload_n 2, 1) := by decide +kernel
theorem dX12_row_133 : decode cX12_row 133 = .ok (.iload 5, 2) := by decide +kernel
theorem dX12_row_135 : decode cX12_row 135 = .ok (.isub, 1) := by decide +kernel
theorem dX12_row_136 : decode cX12_row 136 = .ok (.iconst 1, 1) := by decide +kernel
theorem dX12_row_137 : decode cX12_row 137 = .ok (.isub, 1) := by decide +kernel
theorem dX12_row_138 : decode cX12_row 138 = .ok (.if_icmp .eq 9, 3) := by decide +kernel
theorem dX12_row_141 : decode cX12_row 141 = .ok (.iinc 6 1, 3) := by decide +kernel
theorem dX12_row_144 : decode cX12_row 144 = .ok (.goto (-55), 3) := by decide +kernel
theorem dX12_row_147 : decode cX12_row 147 = .ok (.iload_n 3, 1) := by decide +kernel
theorem dX12_row_148 : decode cX12_row 148 = .ok (.iconst 1, 1) := by decide +kernel
theorem dX12_row_149 : decode cX12_row 149 = .ok (.iload 6, 2) := by decide +kernel
theorem dX12_row_151 : decode cX12_row 151 = .ok (.ishl, 1) := by decide +kernel
theorem dX12_row_152 : decode cX12_row 152 = .ok (.ior, 1) := by decide +kernel
theorem dX12_row_153 : decode cX12_row 153 = .ok (.istore_n 3, 1) := by decide +kernel
theorem dX12_row_154 : decode cX12_row 154 = .ok (.iload 6, 2) := by decide +kernel
theorem dX12_row_156 : decode cX12_row 156 = .ok (.istore 4, 2) := by decide +kernel
theorem dX12_row_158 : decode cX12_row 158 = .ok (.iinc 5 1, 3) := by decide +kernel
theorem dX12_row_161 : decode cX12_row 161 = .ok (.goto (-81), 3) := by decide +kernel
theorem dX12_row_164 : decode cX12_row 164 = .ok (.iload 4, 2) := by decide +kernel
theorem dX12_row_166 : decode cX12_row 166 = .ok (.ireturn, 1) := by decide +kernel
theorem dX12_record_0 : decode cX12_record 0 = .ok (.iload_n 1, 1) := by decide +kernel
theorem dX12_record_1 : decode cX12_record 1 = .ok (.iconst 0, 1) := by decide +kernel
theorem dX12_record_2 : decode cX12_record 2 = .ok (.sipush 1023, 3) := by decide +kernel
theorem dX12_record_5 : decode cX12_record 5 = .ok (.invokestatic 148, 3) := by decide +kernel
theorem dX12_record_8 : decode cX12_record 8 = .ok (.ifCond .eq 14, 3) := by decide +kernel
theorem dX12_record_11 : decode cX12_record 11 = .ok (.iload_n 2, 1) := by decide +kernel
theorem dX12_record_12 : decode cX12_record 12 = .ok (.iconst 0, 1) := by decide +kernel
theorem dX12_record_13 : decode cX12_record 13 = .ok (.sipush 1023, 3) := by decide +kernel
theorem dX12_record_16 : decode cX12_record 16 = .ok (.invokestatic 148, 3) := by decide +kernel
theorem dX12_record_19 : decode cX12_record 19 = .ok (.ifCond .ne 6, 3) := by decide +kernel
theorem dX12_record_22 : decode cX12_record 22 = .ok (.bipush (-2), 2) := by decide +kernel
theorem dX12_record_24 : decode cX12_record 24 = .ok (.ireturn, 1) := by decide +kernel
theorem dX12_record_25 : decode cX12_record 25 = .ok (.aload_n 0, 1) := by decide +kernel
theorem dX12_record_26 : decode cX12_record 26 = .ok (.getfield 376, 3) := by decide +kernel
theorem dX12_record_29 : decode cX12_record 29 = .ok (.bipush 10, 2) := by decide +kernel
theorem dX12_record_31 : decode cX12_record 31 = .ok (.if_icmp .ne 6, 3) := by decide +kernel
theorem dX12_record_34 : decode cX12_record 34 = .ok (.bipush (-4), 2) := by decide +kernel
theorem dX12_record_36 : decode cX12_record 36 = .ok (.ireturn, 1) := by decide +kernel
theorem dX12_record_37 : decode cX12_record 37 = .ok (.aload_n 0, 1) := by decide +kernel
theorem dX12_record_38 : decode cX12_record 38 = .ok (.getfield 103, 3) := by decide +kernel
theorem dX12_record_41 : decode cX12_record 41 = .ok (.aload_n 0, 1) := by decide +kernel
theorem dX12_record_42 : decode cX12_record 42 = .ok (.getfield 376, 3) := by decide +kernel
theorem dX12_record_45 : decode cX12_record 45 = .ok (.iload_n 1, 1) := by decide +kernel
theorem dX12_record_46 : decode cX12_record 46 = .ok (.iload_n 2, 1) := by decide +kernel
theorem dX12_record_47 : decode cX12_record 47 = .ok (.iand, 1) := by decide +kernel
theorem dX12_record_48 : decode cX12_record 48 = .ok (.iastore, 1) := by decide +kernel
theorem dX12_record_49 : decode cX12_record 49 = .ok (.aload_n 0, 1) := by decide +kernel
theorem dX12_record_50 : decode cX12_record 50 = .ok (.getfield 106, 3) := by decide +kernel
theorem dX12_record_53 : decode cX12_record 53 = .ok (.aload_n 0, 1) := by decide +kernel
theorem dX12_record_54 : decode cX12_record 54 = .ok (.getfield 376, 3) := by decide +kernel
theorem dX12_record_57 : decode cX12_record 57 = .ok (.iload_n 2, 1) := by decide +kernel
theorem dX12_record_58 : decode cX12_record 58 = .ok (.iastore, 1) := by decide +kernel
theorem dX12_record_59 : decode cX12_record 59 = .ok (.aload_n 0, 1) := by decide +kernel
theorem dX12_record_60 : decode cX12_record 60 = .ok (.dup, 1) := by decide +kernel
theorem dX12_record_61 : decode cX12_record 61 = .ok (.getfield 376, 3) := by decide +kernel
theorem dX12_record_64 : decode cX12_record 64 = .ok (.iconst 1, 1) := by decide +kernel
theorem dX12_record_65 : decode cX12_record 65 = .ok (.iadd, 1) := by decide +kernel
theorem dX12_record_66 : decode cX12_record 66 = .ok (.putfield 376, 3) := by decide +kernel
theorem dX12_record_69 : decode cX12_record 69 = .ok (.aload_n 0, 1) := by decide +kernel
theorem dX12_record_70 : decode cX12_record 70 = .ok (.getfield 376, 3) := by decide +kernel
theorem dX12_record_73 : decode cX12_record 73 = .ok (.iconst 1, 1) := by decide +kernel
theorem dX12_record_74 : decode cX12_record 74 = .ok (.isub, 1) := by decide +kernel
theorem dX12_record_75 : decode cX12_record 75 = .ok (.ireturn, 1) := by decide +kernel
theorem dX12_areAtOdds_0 : decode cX12_areAtOdds 0 = .ok (.aload_n 0, 1) := by decide +kernel
theorem dX12_areAtOdds_1 : decode cX12_areAtOdds 1 = .ok (.getfield 103, 3) := by decide +kernel
theorem dX12_areAtOdds_4 : decode cX12_areAtOdds 4 = .ok (.iload_n 1, 1) := by decide +kernel
theorem dX12_areAtOdds_5 : decode cX12_areAtOdds 5 = .ok (.iaload, 1) := by decide +kernel
theorem dX12_areAtOdds_6 : decode cX12_areAtOdds 6 = .ok (.aload_n 0, 1) := by decide +kernel
theorem dX12_areAtOdds_7 : decode cX12_areAtOdds 7 = .ok (.getfield 103, 3) := by decide +kernel
theorem dX12_areAtOdds_10 : decode cX12_areAtOdds 10 = .ok (.iload_n 2, 1) := by decide +kernel
theorem dX12_areAtOdds_11 : decode cX12_areAtOdds 11 = .ok (.iaload, 1) := by decide +kernel
theorem dX12_areAtOdds_12 : decode cX12_areAtOdds 12 = .ok (.ixor, 1) := by decide +kernel
theorem dX12_areAtOdds_13 : decode cX12_areAtOdds 13 = .ok (.aload_n 0, 1) := by decide +kernel
theorem dX12_areAtOdds_14 : decode cX12_areAtOdds 14 = .ok (.getfield 106, 3) := by decide +kernel
theorem dX12_areAtOdds_17 : decode cX12_areAtOdds 17 = .ok (.iload_n 1, 1) := by decide +kernel
theorem dX12_areAtOdds_18 : decode cX12_areAtOdds 18 = .ok (.iaload, 1) := by decide +kernel
theorem dX12_areAtOdds_19 : decode cX12_areAtOdds 19 = .ok (.iand, 1) := by decide +kernel
theorem dX12_areAtOdds_20 : decode cX12_areAtOdds 20 = .ok (.aload_n 0, 1) := by decide +kernel
theorem dX12_areAtOdds_21 : decode cX12_areAtOdds 21 = .ok (.getfield 106, 3) := by decide +kernel
theorem dX12_areAtOdds_24 : decode cX12_areAtOdds 24 = .ok (.iload_n 2, 1) := by decide +kernel
theorem dX12_areAtOdds_25 : decode cX12_areAtOdds 25 = .ok (.iaload, 1) := by decide +kernel
theorem dX12_areAtOdds_26 : decode cX12_areAtOdds 26 = .ok (.iand, 1) := by decide +kernel
theorem dX12_areAtOdds_27 : decode cX12_areAtOdds 27 = .ok (.ifCond .eq 7, 3) := by decide +kernel
theorem dX12_areAtOdds_30 : decode cX12_areAtOdds 30 = .ok (.iconst 1, 1) := by decide +kernel
theorem dX12_areAtOdds_31 : decode cX12_areAtOdds 31 = .ok (.goto 4, 3) := by decide +kernel
theorem dX12_areAtOdds_34 : decode cX12_areAtOdds 34 = .ok (.iconst 0, 1) := by decide +kernel
theorem dX12_areAtOdds_35 : decode cX12_areAtOdds 35 = .ok (.ireturn, 1) := by decide +kernel
theorem dX12_match_0 : decode cX12_match 0 = .ok (.aload_n 0, 1) := by decide +kernel
theorem dX12_match_1 : decode cX12_match 1 = .ok (.iload_n 1, 1) := by decide +kernel
theorem dX12_match_2 : decode cX12_match 2 = .ok (.iload_n 2, 1) := by decide +kernel
theorem dX12_match_3 : decode cX12_match 3 = .ok (.invokevirtual 379, 3) := by decide +kernel
theorem dX12_match_6 : decode cX12_match 6 = .ok (.ifCond .ne 30, 3) := by decide +kernel
theorem dX12_match_9 : decode cX12_match 9 = .ok (.aload_n 0, 1) := by decide +kernel
theorem dX12_match_10 : decode cX12_match 10 = .ok (.getfield 106, 3) := by decide +kernel
theorem dX12_match_13 : decode cX12_match 13 = .ok (.iload_n 1, 1) := by decide +kernel
theorem dX12_match_14 : decode cX12_match 14 = .ok (.iaload, 1) := by decide +kernel
theorem dX12_match_15 : decode cX12_match 15 = .ok (.aload_n 0, 1) := by decide +kernel
theorem dX12_match_16 : decode cX12_match 16 = .ok (.getfield 106, 3) := by decide +kernel
theorem dX12_match_19 : decode cX12_match 19 = .ok (.iload_n 2, 1) := by decide +kernel
theorem dX12_match_20 : decode cX12_match 20 = .ok (.iaload, 1) := by decide +kernel
theorem dX12_match_21 : decode cX12_match 21 = .ok (.iand, 1) := by decide +kernel
theorem dX12_match_22 : decode cX12_match 22 = .ok (.invokestatic 179, 3) := by decide +kernel
theorem dX12_match_25 : decode cX12_match 25 = .ok (.aload_n 0, 1) := by decide +kernel
theorem dX12_match_26 : decode cX12_match 26 = .ok (.getfield 143, 3) := by decide +kernel
theorem dX12_match_29 : decode cX12_match 29 = .ok (.if_icmp .lt 7, 3) := by decide +kernel
theorem dX12_match_32 : decode cX12_match 32 = .ok (.iconst 1, 1) := by decide +kernel
theorem dX12_match_33 : decode cX12_match 33 = .ok (.goto 4, 3) := by decide +kernel
theorem dX12_match_36 : decode cX12_match 36 = .ok (.iconst 0, 1) := by decide +kernel
theorem dX12_match_37 : decode cX12_match 37 = .ok (.ireturn, 1) := by decide +kernel
theorem dX12_findThings_0 : decode cX12_findThings 0 = .ok (.iconst 0, 1) := by decide +kernel
theorem dX12_findThings_1 : decode cX12_findThings 1 = .ok (.istore_n 1, 1) := by decide +kernel
theorem dX12_findThings_2 : decode cX12_findThings 2 = .ok (.iload_n 1, 1) := by decide +kernel
theorem dX12_findThings_3 : decode cX12_findThings 3 = .ok (.aload_n 0, 1) := by decide +kernel
theorem dX12_findThings_4 : decode cX12_findThings 4 = .ok (.getfield 376, 3) := by decide +kernel
theorem dX12_findThings_7 : decode cX12_findThings 7 = .ok (.if_icmp .ge 16, 3) := by decide +kernel
theorem dX12_findThings_10 : decode cX12_findThings 10 = .ok (.aload_n 0, 1) := by decide +kernel
theorem dX12_findThings_11 : decode cX12_findThings 11 = .ok (.getfield 109, 3) := by decide +kernel
theorem dX12_findThings_14 : decode cX12_findThings 14 = .ok (.iload_n 1, 1) := by decide +kernel
theorem dX12_findThings_15 : decode cX12_findThings 15 = .ok (.iload_n 1, 1) := by decide +kernel
theorem dX12_findThings_16 : decode cX12_findThings 16 = .ok (.iastore, 1) := by decide +kernel
theorem dX12_findThings_17 : decode cX12_findThings 17 = .ok (.iinc 1 1, 3) := by decide +kernel
theorem dX12_findThings_20 : decode cX12_findThings 20 = .ok (.goto (-18), 3) := by decide +kernel
theorem dX12_findThings_23 : decode cX12_findThings 23 = .ok (.iconst 1, 1) := by decide +kernel
theorem dX12_findThings_24 : decode cX12_findThings 24 = .ok (.istore_n 1, 1) := by decide +kernel
theorem dX12_findThings_25 : decode cX12_findThings 25 = .ok (.iload_n 1, 1) := by decide +kernel
theorem dX12_findThings_26 : decode cX12_findThings 26 = .ok (.ifCond .eq 78, 3) := by decide +kernel
theorem dX12_findThings_29 : decode cX12_findThings 29 = .ok (.iconst 0, 1) := by decide +kernel
theorem dX12_findThings_30 : decode cX12_findThings 30 = .ok (.istore_n 1, 1) := by decide +kernel
theorem dX12_findThings_31 : decode cX12_findThings 31 = .ok (.iconst 0, 1) := by decide +kernel
theorem dX12_findThings_32 : decode cX12_findThings 32 = .ok (.istore_n 2, 1) := by decide +kernel
theorem dX12_findThings_33 : decode cX12_findThings 33 = .ok (.iload_n 2, 1) := by decide +kernel
theorem dX12_findThings_34 : decode cX12_findThings 34 = .ok (.aload_n 0, 1) := by decide +kernel
theorem dX12_findThings_35 : decode cX12_findThings 35 = .ok (.getfield 376, 3) := by decide +kernel
theorem dX12_findThings_38 : decode cX12_findThings 38 = .ok (.if_icmp .ge 63, 3) := by decide +kernel
theorem dX12_findThings_41 : decode cX12_findThings 41 = .ok (.iconst 0, 1) := by decide +kernel
theorem dX12_findThings_42 : decode cX12_findThings 42 = .ok (.istore_n 3, 1) := by decide +kernel
theorem dX12_findThings_43 : decode cX12_findThings 43 = .ok (.iload_n 3, 1) := by decide +kernel
theorem dX12_findThings_44 : decode cX12_findThings 44 = .ok (.aload_n 0, 1) := by decide +kernel
theorem dX12_findThings_45 : decode cX12_findThings 45 = .ok (.getfield 376, 3) := by decide +kernel
theorem dX12_findThings_48 : decode cX12_findThings 48 = .ok (.if_icmp .ge 47, 3) := by decide +kernel
theorem dX12_findThings_51 : decode cX12_findThings 51 = .ok (.aload_n 0, 1) := by decide +kernel
theorem dX12_findThings_52 : decode cX12_findThings 52 = .ok (.getfield 109, 3) := by decide +kernel
theorem dX12_findThings_55 : decode cX12_findThings 55 = .ok (.iload_n 3, 1) := by decide +kernel
theorem dX12_findThings_56 : decode cX12_findThings 56 = .ok (.iaload, 1) := by decide +kernel
theorem dX12_findThings_57 : decode cX12_findThings 57 = .ok (.aload_n 0, 1) := by decide +kernel
theorem dX12_findThings_58 : decode cX12_findThings 58 = .ok (.getfield 109, 3) := by decide +kernel
theorem dX12_findThings_61 : decode cX12_findThings 61 = .ok (.iload_n 2, 1) := by decide +kernel
theorem dX12_findThings_62 : decode cX12_findThings 62 = .ok (.iaload, 1) := by decide +kernel
theorem dX12_findThings_63 : decode cX12_findThings 63 = .ok (.if_icmp .ge 26, 3) := by decide +kernel
theorem dX12_findThings_66 : decode cX12_findThings 66 = .ok (.aload_n 0, 1) := by decide +kernel
theorem dX12_findThings_67 : decode cX12_findThings 67 = .ok (.iload_n 2, 1) := by decide +kernel
theorem dX12_findThings_68 : decode cX12_findThings 68 = .ok (.iload_n 3, 1) := by decide +kernel
theorem dX12_findThings_69 : decode cX12_findThings 69 = .ok (.invokevirtual 382, 3) := by decide +kernel
theorem dX12_findThings_72 : decode cX12_findThings 72 = .ok (.ifCond .eq 17, 3) := by decide +kernel
theorem dX12_findThings_75 : decode cX12_findThings 75 = .ok (.aload_n 0, 1) := by decide +kernel
theorem dX12_findThings_76 : decode cX12_findThings 76 = .ok (.getfield 109, 3) := by decide +kernel
theorem dX12_findThings_79 : decode cX12_findThings 79 = .ok (.iload_n 2, 1) := by decide +kernel
theorem dX12_findThings_80 : decode cX12_findThings 80 = .ok (.aload_n 0, 1) := by decide +kernel
theorem dX12_findThings_81 : decode cX12_findThings 81 = .ok (.getfield 109, 3) := by decide +kernel
theorem dX12_findThings_84 : decode cX12_findThings 84 = .ok (.iload_n 3, 1) := by decide +kernel
theorem dX12_findThings_85 : decode cX12_findThings 85 = .ok (.iaload, 1) := by decide +kernel
theorem dX12_findThings_86 : decode cX12_findThings 86 = .ok (.iastore, 1) := by decide +kernel
theorem dX12_findThings_87 : decode cX12_findThings 87 = .ok (.iconst 1, 1) := by decide +kernel
theorem dX12_findThings_88 : decode cX12_findThings 88 = .ok (.istore_n 1, 1) := by decide +kernel
theorem dX12_findThings_89 : decode cX12_findThings 89 = .ok (.iinc 3 1, 3) := by decide +kernel
theorem dX12_findThings_92 : decode cX12_findThings 92 = .ok (.goto (-49), 3) := by decide +kernel
theorem dX12_findThings_95 : decode cX12_findThings 95 = .ok (.iinc 2 1, 3) := by decide +kernel
theorem dX12_findThings_98 : decode cX12_findThings 98 = .ok (.goto (-65), 3) := by decide +kernel
theorem dX12_findThings_101 : decode cX12_findThings 101 = .ok (.goto (-76), 3) := by decide +kernel
theorem dX12_findThings_104 : decode cX12_findThings 104 = .ok (.return_, 1) := by decide +kernel
theorem dX12_same_0 : decode cX12_same 0 = .ok (.iload_n 1, 1) := by decide +kernel
theorem dX12_same_1 : decode cX12_same 1 = .ok (.iconst 0, 1) := by decide +kernel
theorem dX12_same_2 : decode cX12_same 2 = .ok (.aload_n 0, 1) := by decide +kernel
theorem dX12_same_3 : decode cX12_same 3 = .ok (.getfield 376, 3) := by decide +kernel
theorem dX12_same_6 : decode cX12_same 6 = .ok (.iconst 1, 1) := by decide +kernel
theorem dX12_same_7 : decode cX12_same 7 = .ok (.isub, 1) := by decide +kernel
theorem dX12_same_8 : decode cX12_same 8 = .ok (.invokestatic 148, 3) := by decide +kernel
theorem dX12_same_11 : decode cX12_same 11 = .ok (.ifCond .eq 26, 3) := by decide +kernel
theorem dX12_same_14 : decode cX12_same 14 = .ok (.iload_n 2, 1) := by decide +kernel
theorem dX12_same_15 : decode cX12_same 15 = .ok (.iconst 0, 1) := by decide +kernel
theorem dX12_same_16 : decode cX12_same 16 = .ok (.aload_n 0, 1) := by decide +kernel
theorem dX12_same_17 : decode cX12_same 17 = .ok (.getfield 376, 3) := by decide +kernel
theorem dX12_same_20 : decode cX12_same 20 = .ok (.iconst 1, 1) := by decide +kernel
theorem dX12_same_21 : decode cX12_same 21 = .ok (.isub, 1) := by decide +kernel
theorem dX12_same_22 : decode cX12_same 22 = .ok (.invokestatic 148, 3) := by decide +kernel
theorem dX12_same_25 : decode cX12_same 25 = .ok (.ifCond .eq 12, 3) := by decide +kernel
theorem dX12_same_28 : decode cX12_same 28 = .ok (.iload_n 3, 1) := by decide +kernel
theorem dX12_same_29 : decode cX12_same 29 = .ok (.iconst 0, 1) := by decide +kernel
theorem dX12_same_30 : decode cX12_same 30 = .ok (.iconst 2, 1) := by decide +kernel
theorem dX12_same_31 : decode cX12_same 31 = .ok (.invokestatic 148, 3) := by decide +kernel
theorem dX12_same_34 : decode cX12_same 34 = .ok (.ifCond .ne 6, 3) := by decide +kernel
theorem dX12_same_37 : decode cX12_same 37 = .ok (.bipush (-2), 2) := by decide +kernel
theorem dX12_same_39 : decode cX12_same 39 = .ok (.ireturn, 1) := by decide +kernel
theorem dX12_same_40 : decode cX12_same 40 = .ok (.aload_n 0, 1) := by decide +kernel
theorem dX12_same_41 : decode cX12_same 41 = .ok (.invokevirtual 385, 3) := by decide +kernel
theorem dX12_same_44 : decode cX12_same 44 = .ok (.iload_n 3, 1) := by decide +kernel
theorem dX12_same_45 : decode cX12_same 45 = .ok (.ifCond .ne 15, 3) := by decide +kernel
theorem dX12_same_48 : decode cX12_same 48 = .ok (.aload_n 0, 1) := by decide +kernel
theorem dX12_same_49 : decode cX12_same 49 = .ok (.iload_n 1, 1) := by decide +kernel
theorem dX12_same_50 : decode cX12_same 50 = .ok (.iload_n 2, 1) := by decide +kernel
theorem dX12_same_51 : decode cX12_same 51 = .ok (.invokevirtual 382, 3) := by decide +kernel
theorem dX12_same_54 : decode cX12_same 54 = .ok (.ifCond .eq 42, 3) := by decide +kernel
theorem dX12_same_57 : decode cX12_same 57 = .ok (.goto 35, 3) := by decide +kernel
theorem dX12_same_60 : decode cX12_same 60 = .ok (.iload_n 3, 1) := by decide +kernel
theorem dX12_same_61 : decode cX12_same 61 = .ok (.iconst 1, 1) := by decide +kernel
theorem dX12_same_62 : decode cX12_same 62 = .ok (.if_icmp .ne 15, 3) := by decide +kernel
theorem dX12_same_65 : decode cX12_same 65 = .ok (.aload_n 0, 1) := by decide +kernel
theorem dX12_same_66 : decode cX12_same 66 = .ok (.iload_n 1, 1) := by decide +kernel
theorem dX12_same_67 : decode cX12_same 67 = .ok (.iload_n 2, 1) := by decide +kernel
theorem dX12_same_68 : decode cX12_same 68 = .ok (.invokevirtual 379, 3) := by decide +kernel
theorem dX12_same_71 : decode cX12_same 71 = .ok (.ifCond .eq 25, 3) := by decide +kernel
theorem dX12_same_74 : decode cX12_same 74 = .ok (.goto 18, 3) := by decide +kernel
theorem dX12_same_77 : decode cX12_same 77 = .ok (.aload_n 0, 1) := by decide +kernel
theorem dX12_same_78 : decode cX12_same 78 = .ok (.getfield 109, 3) := by decide +kernel
theorem dX12_same_81 : decode cX12_same 81 = .ok (.iload_n 1, 1) := by decide +kernel
theorem dX12_same_82 : decode cX12_same 82 = .ok (.iaload, 1) := by decide +kernel
theorem dX12_same_83 : decode cX12_same 83 = .ok (.aload_n 0, 1) := by decide +kernel
theorem dX12_same_84 : decode cX12_same 84 = .ok (.getfield 109, 3) := by decide +kernel
theorem dX12_same_87 : decode cX12_same 87 = .ok (.iload_n 2, 1) := by decide +kernel
theorem dX12_same_88 : decode cX12_same 88 = .ok (.iaload, 1) := by decide +kernel
theorem dX12_same_89 : decode cX12_same 89 = .ok (.if_icmp .ne 7, 3) := by decide +kernel
theorem dX12_same_92 : decode cX12_same 92 = .ok (.iconst 1, 1) := by decide +kernel
theorem dX12_same_93 : decode cX12_same 93 = .ok (.goto 4, 3) := by decide +kernel
theorem dX12_same_96 : decode cX12_same 96 = .ok (.iconst 0, 1) := by decide +kernel
theorem dX12_same_97 : decode cX12_same 97 = .ok (.ireturn, 1) := by decide +kernel
theorem dX12_hasCopy_0 : decode cX12_hasCopy 0 = .ok (.iconst 0, 1) := by decide +kernel
theorem dX12_hasCopy_1 : decode cX12_hasCopy 1 = .ok (.istore_n 2, 1) := by decide +kernel
theorem dX12_hasCopy_2 : decode cX12_hasCopy 2 = .ok (.iload_n 2, 1) := by decide +kernel
theorem dX12_hasCopy_3 : decode cX12_hasCopy 3 = .ok (.aload_n 0, 1) := by decide +kernel
theorem dX12_hasCopy_4 : decode cX12_hasCopy 4 = .ok (.getfield 376, 3) := by decide +kernel
theorem dX12_hasCopy_7 : decode cX12_hasCopy 7 = .ok (.if_icmp .ge 58, 3) := by decide +kernel
theorem dX12_hasCopy_10 : decode cX12_hasCopy 10 = .ok (.iload_n 2, 1) := by decide +kernel
theorem dX12_hasCopy_11 : decode cX12_hasCopy 11 = .ok (.iconst 1, 1) := by decide +kernel
theorem dX12_hasCopy_12 : decode cX12_hasCopy 12 = .ok (.iadd, 1) := by decide +kernel
theorem dX12_hasCopy_13 : decode cX12_hasCopy 13 = .ok (.istore_n 3, 1) := by decide +kernel
theorem dX12_hasCopy_14 : decode cX12_hasCopy 14 = .ok (.iload_n 3, 1) := by decide +kernel
theorem dX12_hasCopy_15 : decode cX12_hasCopy 15 = .ok (.aload_n 0, 1) := by decide +kernel
theorem dX12_hasCopy_16 : decode cX12_hasCopy 16 = .ok (.getfield 376, 3) := by decide +kernel
theorem dX12_hasCopy_19 : decode cX12_hasCopy 19 = .ok (.if_icmp .ge 40, 3) := by decide +kernel
theorem dX12_hasCopy_22 : decode cX12_hasCopy 22 = .ok (.aload_n 0, 1) := by decide +kernel
theorem dX12_hasCopy_23 : decode cX12_hasCopy 23 = .ok (.getfield 109, 3) := by decide +kernel
theorem dX12_hasCopy_26 : decode cX12_hasCopy 26 = .ok (.iload_n 2, 1) := by decide +kernel
theorem dX12_hasCopy_27 : decode cX12_hasCopy 27 = .ok (.iaload, 1) := by decide +kernel
theorem dX12_hasCopy_28 : decode cX12_hasCopy 28 = .ok (.iload_n 1, 1) := by decide +kernel
theorem dX12_hasCopy_29 : decode cX12_hasCopy 29 = .ok (.if_icmp .ne 24, 3) := by decide +kernel
theorem dX12_hasCopy_32 : decode cX12_hasCopy 32 = .ok (.aload_n 0, 1) := by decide +kernel
theorem dX12_hasCopy_33 : decode cX12_hasCopy 33 = .ok (.getfield 109, 3) := by decide +kernel
theorem dX12_hasCopy_36 : decode cX12_hasCopy 36 = .ok (.iload_n 3, 1) := by decide +kernel
theorem dX12_hasCopy_37 : decode cX12_hasCopy 37 = .ok (.iaload, 1) := by decide +kernel
theorem dX12_hasCopy_38 : decode cX12_hasCopy 38 = .ok (.iload_n 1, 1) := by decide +kernel
theorem dX12_hasCopy_39 : decode cX12_hasCopy 39 = .ok (.if_icmp .ne 14, 3) := by decide +kernel
theorem dX12_hasCopy_42 : decode cX12_hasCopy 42 = .ok (.aload_n 0, 1) := by decide +kernel
theorem dX12_hasCopy_43 : decode cX12_hasCopy 43 = .ok (.iload_n 2, 1) := by decide +kernel
theorem dX12_hasCopy_44 : decode cX12_hasCopy 44 = .ok (.iload_n 3, 1) := by decide +kernel
theorem dX12_hasCopy_45 : decode cX12_hasCopy 45 = .ok (.invokevirtual 379, 3) := by decide +kernel
theorem dX12_hasCopy_48 : decode cX12_hasCopy 48 = .ok (.ifCond .eq 5, 3) := by decide +kernel
theorem dX12_hasCopy_51 : decode cX12_hasCopy 51 = .ok (.iconst 1, 1) := by decide +kernel
theorem dX12_hasCopy_52 : decode cX12_hasCopy 52 = .ok (.ireturn, 1) := by decide +kernel
theorem dX12_hasCopy_53 : decode cX12_hasCopy 53 = .ok (.iinc 3 1, 3) := by decide +kernel
theorem dX12_hasCopy_56 : decode cX12_hasCopy 56 = .ok (.goto (-42), 3) := by decide +kernel
theorem dX12_hasCopy_59 : decode cX12_hasCopy 59 = .ok (.iinc 2 1, 3) := by decide +kernel
theorem dX12_hasCopy_62 : decode cX12_hasCopy 62 = .ok (.goto (-60), 3) := by decide +kernel
theorem dX12_hasCopy_65 : decode cX12_hasCopy 65 = .ok (.iconst 0, 1) := by decide +kernel
theorem dX12_hasCopy_66 : decode cX12_hasCopy 66 = .ok (.ireturn, 1) := by decide +kernel
theorem dX12_things_0 : decode cX12_things 0 = .ok (.iload_n 1, 1) := by decide +kernel
theorem dX12_things_1 : decode cX12_things 1 = .ok (.iconst (-1), 1) := by decide +kernel
theorem dX12_things_2 : decode cX12_things 2 = .ok (.if_icmp .eq 12, 3) := by decide +kernel
theorem dX12_things_5 : decode cX12_things 5 = .ok (.iload_n 1, 1) := by decide +kernel
theorem dX12_things_6 : decode cX12_things 6 = .ok (.bipush (-2), 2) := by decide +kernel
theorem dX12_things_8 : decode cX12_things 8 = .ok (.if_icmp .eq 6, 3) := by decide +kernel
theorem dX12_things_11 : decode cX12_things 11 = .ok (.bipush (-2), 2) := by decide +kernel
theorem dX12_things_13 : decode cX12_things 13 = .ok (.ireturn, 1) := by decide +kernel
theorem dX12_things_14 : decode cX12_things 14 = .ok (.aload_n 0, 1) := by decide +kernel
theorem dX12_things_15 : decode cX12_things 15 = .ok (.invokevirtual 385, 3) := by decide +kernel
theorem dX12_things_18 : decode cX12_things 18 = .ok (.iconst 0, 1) := by decide +kernel
theorem dX12_things_19 : decode cX12_things 19 = .ok (.istore_n 2, 1) := by decide +kernel
theorem dX12_things_20 : decode cX12_things 20 = .ok (.iconst 0, 1) := by decide +kernel
theorem dX12_things_21 : decode cX12_things 21 = .ok (.istore_n 3, 1) := by decide +kernel
theorem dX12_things_22 : decode cX12_things 22 = .ok (.iload_n 3, 1) := by decide +kernel
theorem dX12_things_23 : decode cX12_things 23 = .ok (.aload_n 0, 1) := by decide +kernel
theorem dX12_things_24 : decode cX12_things 24 = .ok (.getfield 376, 3) := by decide +kernel
theorem dX12_things_27 : decode cX12_things 27 = .ok (.if_icmp .ge 40, 3) := by decide +kernel
theorem dX12_things_30 : decode cX12_things 30 = .ok (.iload_n 2, 1) := by decide +kernel
theorem dX12_things_31 : decode cX12_things 31 = .ok (.aload_n 0, 1) := by decide +kernel
theorem dX12_things_32 : decode cX12_things 32 = .ok (.getfield 109, 3) := by decide +kernel
theorem dX12_things_35 : decode cX12_things 35 = .ok (.iload_n 3, 1) := by decide +kernel
theorem dX12_things_36 : decode cX12_things 36 = .ok (.iaload, 1) := by decide +kernel
theorem dX12_things_37 : decode cX12_things 37 = .ok (.iload_n 3, 1) := by decide +kernel
theorem dX12_things_38 : decode cX12_things 38 = .ok (.if_icmp .ne 20, 3) := by decide +kernel
theorem dX12_things_41 : decode cX12_things 41 = .ok (.iload_n 1, 1) := by decide +kernel
theorem dX12_things_42 : decode cX12_things 42 = .ok (.iconst (-1), 1) := by decide +kernel
theorem dX12_things_43 : decode cX12_things 43 = .ok (.if_icmp .eq 11, 3) := by decide +kernel
theorem dX12_things_46 : decode cX12_things 46 = .ok (.aload_n 0, 1) := by decide +kernel
theorem dX12_things_47 : decode cX12_things 47 = .ok (.iload_n 3, 1) := by decide +kernel
theorem dX12_things_48 : decode cX12_things 48 = .ok (.invokevirtual 388, 3) := by decide +kernel
theorem dX12_things_51 : decode cX12_things 51 = .ok (.ifCond .eq 7, 3) := by decide +kernel
theorem dX12_things_54 : decode cX12_things 54 = .ok (.iconst 1, 1) := by decide +kernel
theorem dX12_things_55 : decode cX12_things 55 = .ok (.goto 4, 3) := by decide +kernel
theorem dX12_things_58 : decode cX12_things 58 = .ok (.iconst 0, 1) := by decide +kernel
theorem dX12_things_59 : decode cX12_things 59 = .ok (.iadd, 1) := by decide +kernel
theorem dX12_things_60 : decode cX12_things 60 = .ok (.istore_n 2, 1) := by decide +kernel
theorem dX12_things_61 : decode cX12_things 61 = .ok (.iinc 3 1, 3) := by decide +kernel
theorem dX12_things_64 : decode cX12_things 64 = .ok (.goto (-42), 3) := by decide +kernel
theorem dX12_things_67 : decode cX12_things 67 = .ok (.iload_n 2, 1) := by decide +kernel
theorem dX12_things_68 : decode cX12_things 68 = .ok (.ireturn, 1) := by decide +kernel
theorem dX12_count_0 : decode cX12_count 0 = .ok (.iload_n 1, 1) := by decide +kernel
theorem dX12_count_1 : decode cX12_count 1 = .ok (.tableswitch 118 0 10 #[59, 64, 69, 74, 83, 88, 93, 98, 103, 108, 113], 59) := by decide +kernel
theorem dX12_count_60 : decode cX12_count 60 = .ok (.aload_n 0, 1) := by decide +kernel
theorem dX12_count_61 : decode cX12_count 61 = .ok (.getfield 124, 3) := by decide +kernel
theorem dX12_count_64 : decode cX12_count 64 = .ok (.ireturn, 1) := by decide +kernel
theorem dX12_count_65 : decode cX12_count 65 = .ok (.aload_n 0, 1) := by decide +kernel
theorem dX12_count_66 : decode cX12_count 66 = .ok (.getfield 159, 3) := by decide +kernel
theorem dX12_count_69 : decode cX12_count 69 = .ok (.ireturn, 1) := by decide +kernel
theorem dX12_count_70 : decode cX12_count 70 = .ok (.aload_n 0, 1) := by decide +kernel
theorem dX12_count_71 : decode cX12_count 71 = .ok (.getfield 162, 3) := by decide +kernel
theorem dX12_count_74 : decode cX12_count 74 = .ok (.ireturn, 1) := by decide +kernel
theorem dX12_count_75 : decode cX12_count 75 = .ok (.aload_n 0, 1) := by decide +kernel
theorem dX12_count_76 : decode cX12_count 76 = .ok (.iconst (-1), 1) := by decide +kernel
theorem dX12_count_77 : decode cX12_count 77 = .ok (.invokevirtual 168, 3) := by decide +kernel
theorem dX12_count_80 : decode cX12_count 80 = .ok (.invokestatic 179, 3) := by decide +kernel
theorem dX12_count_83 : decode cX12_count 83 = .ok (.ireturn, 1) := by decide +kernel
theorem dX12_count_84 : decode cX12_count 84 = .ok (.aload_n 0, 1) := by decide +kernel
theorem dX12_count_85 : decode cX12_count 85 = .ok (.getfield 333, 3) := by decide +kernel
theorem dX12_count_88 : decode cX12_count 88 = .ok (.ireturn, 1) := by decide +kernel
theorem dX12_count_89 : decode cX12_count 89 = .ok (.aload_n 0, 1) := by decide +kernel
theorem dX12_count_90 : decode cX12_count 90 = .ok (.getfield 346, 3) := by decide +kernel
theorem dX12_count_93 : decode cX12_count 93 = .ok (.ireturn, 1) := by decide +kernel
theorem dX12_count_94 : decode cX12_count 94 = .ok (.aload_n 0, 1) := by decide +kernel
theorem dX12_count_95 : decode cX12_count 95 = .ok (.getfield 364, 3) := by decide +kernel
theorem dX12_count_98 : decode cX12_count 98 = .ok (.ireturn, 1) := by decide +kernel
theorem dX12_count_99 : decode cX12_count 99 = .ok (.aload_n 0, 1) := by decide +kernel
theorem dX12_count_100 : decode cX12_count 100 = .ok (.getfield 376, 3) := by decide +kernel
theorem dX12_count_103 : decode cX12_count 103 = .ok (.ireturn, 1) := by decide +kernel
theorem dX12_count_104 : decode cX12_count 104 = .ok (.aload_n 0, 1) := by decide +kernel
theorem dX12_count_105 : decode cX12_count 105 = .ok (.getfield 137, 3) := by decide +kernel
theorem dX12_count_108 : decode cX12_count 108 = .ok (.ireturn, 1) := by decide +kernel
theorem dX12_count_109 : decode cX12_count 109 = .ok (.aload_n 0, 1) := by decide +kernel
theorem dX12_count_110 : decode cX12_count 110 = .ok (.getfield 206, 3) := by decide +kernel
theorem dX12_count_113 : decode cX12_count 113 = .ok (.ireturn, 1) := by decide +kernel
theorem dX12_count_114 : decode cX12_count 114 = .ok (.aload_n 0, 1) := by decide +kernel
theorem dX12_count_115 : decode cX12_count 115 = .ok (.getfield 140, 3) := by decide +kernel
theorem dX12_count_118 : decode cX12_count 118 = .ok (.ireturn, 1) := by decide +kernel
theorem dX12_count_119 : decode cX12_count 119 = .ok (.bipush (-2), 2) := by decide +kernel
theorem dX12_count_121 : decode cX12_count 121 = .ok (.ireturn, 1) := by decide +kernel
theorem dX12_isSheet_0 : decode cX12_isSheet 0 = .ok (.iload_n 0, 1) := by decide +kernel
theorem dX12_isSheet_1 : decode cX12_isSheet 1 = .ok (.iconst 0, 1) := by decide +kernel
theorem dX12_isSheet_2 : decode cX12_isSheet 2 = .ok (.iconst 3, 1) := by decide +kernel
theorem dX12_isSheet_3 : decode cX12_isSheet 3 = .ok (.invokestatic 148, 3) := by decide +kernel
theorem dX12_isSheet_6 : decode cX12_isSheet 6 = .ok (.ireturn, 1) := by decide +kernel
theorem dX12_sheet_0 : decode cX12_sheet 0 = .ok (.iload_n 1, 1) := by decide +kernel
theorem dX12_sheet_1 : decode cX12_sheet 1 = .ok (.invokestatic 391, 3) := by decide +kernel
theorem dX12_sheet_4 : decode cX12_sheet 4 = .ok (.ifCond .eq 22, 3) := by decide +kernel
theorem dX12_sheet_7 : decode cX12_sheet 7 = .ok (.iload_n 2, 1) := by decide +kernel
theorem dX12_sheet_8 : decode cX12_sheet 8 = .ok (.iconst (-1), 1) := by decide +kernel
theorem dX12_sheet_9 : decode cX12_sheet 9 = .ok (.iconst 2, 1) := by decide +kernel
theorem dX12_sheet_10 : decode cX12_sheet 10 = .ok (.invokestatic 148, 3) := by decide +kernel
theorem dX12_sheet_13 : decode cX12_sheet 13 = .ok (.ifCond .eq 13, 3) := by decide +kernel
theorem dX12_sheet_16 : decode cX12_sheet 16 = .ok (.iload_n 2, 1) := by decide +kernel
theorem dX12_sheet_17 : decode cX12_sheet 17 = .ok (.ifCond .lt 12, 3) := by decide +kernel
theorem dX12_sheet_20 : decode cX12_sheet 20 = .ok (.iload_n 3, 1) := by decide +kernel
theorem dX12_sheet_21 : decode cX12_sheet 21 = .ok (.bipush 40, 2) := by decide +kernel
theorem dX12_sheet_23 : decode cX12_sheet 23 = .ok (.if_icmp .le 6, 3) := by decide +kernel
theorem dX12_sheet_26 : decode cX12_sheet 26 = .ok (.bipush (-2), 2) := by decide +kernel
theorem dX12_sheet_28 : decode cX12_sheet 28 = .ok (.ireturn, 1) := by decide +kernel
theorem dX12_sheet_29 : decode cX12_sheet 29 = .ok (.iload_n 2, 1) := by decide +kernel
theorem dX12_sheet_30 : decode cX12_sheet 30 = .ok (.ifCond .lt 10, 3) := by decide +kernel
theorem dX12_sheet_33 : decode cX12_sheet 33 = .ok (.iload_n 3, 1) := by decide +kernel
theorem dX12_sheet_34 : decode cX12_sheet 34 = .ok (.ifCond .ge 6, 3) := by decide +kernel
theorem dX12_sheet_37 : decode cX12_sheet 37 = .ok (.bipush (-14), 2) := by decide +kernel
theorem dX12_sheet_39 : decode cX12_sheet 39 = .ok (.ireturn, 1) := by decide +kernel
theorem dX12_sheet_40 : decode cX12_sheet 40 = .ok (.aload_n 0, 1) := by decide +kernel
theorem dX12_sheet_41 : decode cX12_sheet 41 = .ok (.getfield 112, 3) := by decide +kernel
theorem dX12_sheet_44 : decode cX12_sheet 44 = .ok (.iload_n 1, 1) := by decide +kernel
theorem dX12_sheet_45 : decode cX12_sheet 45 = .ok (.iload_n 2, 1) := by decide +kernel
theorem dX12_sheet_46 : decode cX12_sheet 46 = .ok (.ifCond .lt 7, 3) := by decide +kernel
theorem dX12_sheet_49 : decode cX12_sheet 49 = .ok (.iconst 1, 1) := by decide +kernel
theorem dX12_sheet_50 : decode cX12_sheet 50 = .ok (.goto 4, 3) := by decide +kernel
theorem dX12_sheet_53 : decode cX12_sheet 53 = .ok (.iconst 0, 1) := by decide +kernel
theorem dX12_sheet_54 : decode cX12_sheet 54 = .ok (.bastore, 1) := by decide +kernel
theorem dX12_sheet_55 : decode cX12_sheet 55 = .ok (.aload_n 0, 1) := by decide +kernel
theorem dX12_sheet_56 : decode cX12_sheet 56 = .ok (.getfield 115, 3) := by decide +kernel
theorem dX12_sheet_59 : decode cX12_sheet 59 = .ok (.iload_n 1, 1) := by decide +kernel
theorem dX12_sheet_60 : decode cX12_sheet 60 = .ok (.iload_n 2, 1) := by decide +kernel
theorem dX12_sheet_61 : decode cX12_sheet 61 = .ok (.iastore, 1) := by decide +kernel
theorem dX12_sheet_62 : decode cX12_sheet 62 = .ok (.aload_n 0, 1) := by decide +kernel
theorem dX12_sheet_63 : decode cX12_sheet 63 = .ok (.getfield 118, 3) := by decide +kernel
theorem dX12_sheet_66 : decode cX12_sheet 66 = .ok (.iload_n 1, 1) := by decide +kernel
theorem dX12_sheet_67 : decode cX12_sheet 67 = .ok (.iload_n 3, 1) := by decide +kernel
theorem dX12_sheet_68 : decode cX12_sheet 68 = .ok (.iastore, 1) := by decide +kernel
theorem dX12_sheet_69 : decode cX12_sheet 69 = .ok (.iconst 0, 1) := by decide +kernel
theorem dX12_sheet_70 : decode cX12_sheet 70 = .ok (.istore 4, 2) := by decide +kernel
theorem dX12_sheet_72 : decode cX12_sheet 72 = .ok (.iload 4, 2) := by decide +kernel
theorem dX12_sheet_74 : decode cX12_sheet 74 = .ok (.iload_n 3, 1) := by decide +kernel
theorem dX12_sheet_75 : decode cX12_sheet 75 = .ok (.if_icmp .ge 26, 3) := by decide +kernel
theorem dX12_sheet_78 : decode cX12_sheet 78 = .ok (.iload_n 2, 1) := by decide +kernel
theorem dX12_sheet_79 : decode cX12_sheet 79 = .ok (.ifCond .lt 22, 3) := by decide +kernel
theorem dX12_sheet_82 : decode cX12_sheet 82 = .ok (.aload_n 0, 1) := by decide +kernel
theorem dX12_sheet_83 : decode cX12_sheet 83 = .ok (.getfield 121, 3) := by decide +kernel
theorem dX12_sheet_86 : decode cX12_sheet 86 = .ok (.bipush 40, 2) := by decide +kernel
theorem dX12_sheet_88 : decode cX12_sheet 88 = .ok (.iload_n 1, 1) := by decide +kernel
theorem dX12_sheet_89 : decode cX12_sheet 89 = .ok (.imul, 1) := by decide +kernel
theorem dX12_sheet_90 : decode cX12_sheet 90 = .ok (.iload 4, 2) := by decide +kernel
theorem dX12_sheet_92 : decode cX12_sheet 92 = .ok (.iadd, 1) := by decide +kernel
theorem dX12_sheet_93 : decode cX12_sheet 93 = .ok (.iconst 0, 1) := by decide +kernel
theorem dX12_sheet_94 : decode cX12_sheet 94 = .ok (.iastore, 1) := by decide +kernel
theorem dX12_sheet_95 : decode cX12_sheet 95 = .ok (.iinc 4 1, 3) := by decide +kernel
theorem dX12_sheet_98 : decode cX12_sheet 98 = .ok (.goto (-26), 3) := by decide +kernel
theorem dX12_sheet_101 : decode cX12_sheet 101 = .ok (.iconst 1, 1) := by decide +kernel
theorem dX12_sheet_102 : decode cX12_sheet 102 = .ok (.ireturn, 1) := by decide +kernel
theorem dX12_cell_0 : decode cX12_cell 0 = .ok (.iload_n 1, 1) := by decide +kernel
theorem dX12_cell_1 : decode cX12_cell 1 = .ok (.invokestatic 391, 3) := by decide +kernel
theorem dX12_cell_4 : decode cX12_cell 4 = .ok (.ifCond .ne 6, 3) := by decide +kernel
theorem dX12_cell_7 : decode cX12_cell 7 = .ok (.bipush (-2), 2) := by decide +kernel
theorem dX12_cell_9 : decode cX12_cell 9 = .ok (.ireturn, 1) := by decide +kernel
theorem dX12_cell_10 : decode cX12_cell 10 = .ok (.aload_n 0, 1) := by decide +kernel
theorem dX12_cell_11 : decode cX12_cell 11 = .ok (.getfield 112, 3) := by decide +kernel
theorem dX12_cell_14 : decode cX12_cell 14 = .ok (.iload_n 1, 1) := by decide +kernel
theorem dX12_cell_15 : decode cX12_cell 15 = .ok (.baload, 1) := by decide +kernel
theorem dX12_cell_16 : decode cX12_cell 16 = .ok (.ifCond .ne 6, 3) := by decide +kernel
theorem dX12_cell_19 : decode cX12_cell 19 = .ok (.bipush (-11), 2) := by decide +kernel
theorem dX12_cell_21 : decode cX12_cell 21 = .ok (.ireturn, 1) := by decide +kernel
theorem dX12_cell_22 : decode cX12_cell 22 = .ok (.iload_n 2, 1) := by decide +kernel
theorem dX12_cell_23 : decode cX12_cell 23 = .ok (.iconst 0, 1) := by decide +kernel
theorem dX12_cell_24 : decode cX12_cell 24 = .ok (.aload_n 0, 1) := by decide +kernel
theorem dX12_cell_25 : decode cX12_cell 25 = .ok (.getfield 118, 3) := by decide +kernel
theorem dX12_cell_28 : decode cX12_cell 28 = .ok (.iload_n 1, 1) := by decide +kernel
theorem dX12_cell_29 : decode cX12_cell 29 = .ok (.iaload, 1) := by decide +kernel
theorem dX12_cell_30 : decode cX12_cell 30 = .ok (.iconst 1, 1) := by decide +kernel
theorem dX12_cell_31 : decode cX12_cell 31 = .ok (.isub, 1) := by decide +kernel
theorem dX12_cell_32 : decode cX12_cell 32 = .ok (.invokestatic 148, 3) := by decide +kernel
theorem dX12_cell_35 : decode cX12_cell 35 = .ok (.ifCond .ne 6, 3) := by decide +kernel
theorem dX12_cell_38 : decode cX12_cell 38 = .ok (.bipush (-12), 2) := by decide +kernel
theorem dX12_cell_40 : decode cX12_cell 40 = .ok (.ireturn, 1) := by decide +kernel
theorem dX12_cell_41 : decode cX12_cell 41 = .ok (.aload_n 0, 1) := by decide +kernel
theorem dX12_cell_42 : decode cX12_cell 42 = .ok (.getfield 121, 3) := by decide +kernel
theorem dX12_cell_45 : decode cX12_cell 45 = .ok (.bipush 40, 2) := by decide +kernel
theorem dX12_cell_47 : decode cX12_cell 47 = .ok (.iload_n 1, 1) := by decide +kernel
theorem dX12_cell_48 : decode cX12_cell 48 = .ok (.imul, 1) := by decide +kernel
theorem dX12_cell_49 : decode cX12_cell 49 = .ok (.iload_n 2, 1) := by decide +kernel
theorem dX12_cell_50 : decode cX12_cell 50 = .ok (.iadd, 1) := by decide +kernel
theorem dX12_cell_51 : decode cX12_cell 51 = .ok (.aload_n 0, 1) := by decide +kernel
theorem dX12_cell_52 : decode cX12_cell 52 = .ok (.getfield 115, 3) := by decide +kernel
theorem dX12_cell_55 : decode cX12_cell 55 = .ok (.iload_n 1, 1) := by decide +kernel
theorem dX12_cell_56 : decode cX12_cell 56 = .ok (.iaload, 1) := by decide +kernel
theorem dX12_cell_57 : decode cX12_cell 57 = .ok (.ifCond .ne 8, 3) := by decide +kernel
theorem dX12_cell_60 : decode cX12_cell 60 = .ok (.iload_n 3, 1) := by decide +kernel
theorem dX12_cell_61 : decode cX12_cell 61 = .ok (.i2b, 1) := by decide +kernel
theorem dX12_cell_62 : decode cX12_cell 62 = .ok (.goto 19, 3) := by decide +kernel
theorem dX12_cell_65 : decode cX12_cell 65 = .ok (.aload_n 0, 1) := by decide +kernel
theorem dX12_cell_66 : decode cX12_cell 66 = .ok (.getfield 115, 3) := by decide +kernel
theorem dX12_cell_69 : decode cX12_cell 69 = .ok (.iload_n 1, 1) := by decide +kernel
theorem dX12_cell_70 : decode cX12_cell 70 = .ok (.iaload, 1) := by decide +kernel
theorem dX12_cell_71 : decode cX12_cell 71 = .ok (.iconst 1, 1) := by decide +kernel
theorem dX12_cell_72 : decode cX12_cell 72 = .ok (.if_icmp .ne 8, 3) := by decide +kernel
theorem dX12_cell_75 : decode cX12_cell 75 = .ok (.iload_n 3, 1) := by decide +kernel
theorem dX12_cell_76 : decode cX12_cell 76 = .ok (.i2s, 1) := by decide +kernel
theorem dX12_cell_77 : decode cX12_cell 77 = .ok (.goto 4, 3) := by decide +kernel
theorem dX12_cell_80 : decode cX12_cell 80 = .ok (.iload_n 3, 1) := by decide +kernel
theorem dX12_cell_81 : decode cX12_cell 81 = .ok (.iastore, 1) := by decide +kernel
theorem dX12_cell_82 : decode cX12_cell 82 = .ok (.iconst 1, 1) := by decide +kernel
theorem dX12_cell_83 : decode cX12_cell 83 = .ok (.ireturn, 1) := by decide +kernel
theorem dX12_copy_0 : decode cX12_copy 0 = .ok (.iload_n 1, 1) := by decide +kernel
theorem dX12_copy_1 : decode cX12_copy 1 = .ok (.invokestatic 391, 3) := by decide +kernel
theorem dX12_copy_4 : decode cX12_copy 4 = .ok (.ifCond .eq 10, 3) := by decide +kernel
theorem dX12_copy_7 : decode cX12_copy 7 = .ok (.iload_n 3, 1) := by decide +kernel
theorem dX12_copy_8 : decode cX12_copy 8 = .ok (.invokestatic 391, 3) := by decide +kernel
theorem dX12_copy_11 : decode cX12_copy 11 = .ok (.ifCond .ne 6, 3) := by decide +kernel
theorem dX12_copy_14 : decode cX12_copy 14 = .ok (.bipush (-2), 2) := by decide +kernel
theorem dX12_copy_16 : decode cX12_copy 16 = .ok (.ireturn, 1) := by decide +kernel
theorem dX12_copy_17 : decode cX12_copy 17 = .ok (.aload_n 0, 1) := by decide +kernel
theorem dX12_copy_18 : decode cX12_copy 18 = .ok (.getfield 112, 3) := by decide +kernel
theorem dX12_copy_21 : decode cX12_copy 21 = .ok (.iload_n 1, 1) := by decide +kernel
theorem dX12_copy_22 : decode cX12_copy 22 = .ok (.baload, 1) := by decide +kernel
theorem dX12_copy_23 : decode cX12_copy 23 = .ok (.ifCond .eq 12, 3) := by decide +kernel
theorem dX12_copy_26 : decode cX12_copy 26 = .ok (.aload_n 0, 1) := by decide +kernel
theorem dX12_copy_27 : decode cX12_copy 27 = .ok (.getfield 112, 3) := by decide +kernel
theorem dX12_copy_30 : decode cX12_copy 30 = .ok (.iload_n 3, 1) := by decide +kernel
theorem dX12_copy_31 : decode cX12_copy 31 = .ok (.baload, 1) := by decide +kernel
theorem dX12_copy_32 : decode cX12_copy 32 = .ok (.ifCond .ne 6, 3) := by decide +kernel
theorem dX12_copy_35 : decode cX12_copy 35 = .ok (.bipush (-11), 2) := by decide +kernel
theorem dX12_copy_37 : decode cX12_copy 37 = .ok (.ireturn, 1) := by decide +kernel
theorem dX12_copy_38 : decode cX12_copy 38 = .ok (.aload_n 0, 1) := by decide +kernel
theorem dX12_copy_39 : decode cX12_copy 39 = .ok (.getfield 115, 3) := by decide +kernel
theorem dX12_copy_42 : decode cX12_copy 42 = .ok (.iload_n 1, 1) := by decide +kernel
theorem dX12_copy_43 : decode cX12_copy 43 = .ok (.iaload, 1) := by decide +kernel
theorem dX12_copy_44 : decode cX12_copy 44 = .ok (.aload_n 0, 1) := by decide +kernel
theorem dX12_copy_45 : decode cX12_copy 45 = .ok (.getfield 115, 3) := by decide +kernel
theorem dX12_copy_48 : decode cX12_copy 48 = .ok (.iload_n 3, 1) := by decide +kernel
theorem dX12_copy_49 : decode cX12_copy 49 = .ok (.iaload, 1) := by decide +kernel
theorem dX12_copy_50 : decode cX12_copy 50 = .ok (.if_icmp .eq 6, 3) := by decide +kernel
theorem dX12_copy_53 : decode cX12_copy 53 = .ok (.bipush (-13), 2) := by decide +kernel
theorem dX12_copy_55 : decode cX12_copy 55 = .ok (.ireturn, 1) := by decide +kernel
theorem dX12_copy_56 : decode cX12_copy 56 = .ok (.iload 5, 2) := by decide +kernel
theorem dX12_copy_58 : decode cX12_copy 58 = .ok (.ifCond .lt 39, 3) := by decide +kernel
theorem dX12_copy_61 : decode cX12_copy 61 = .ok (.iload_n 2, 1) := by decide +kernel
theorem dX12_copy_62 : decode cX12_copy 62 = .ok (.ifCond .lt 35, 3) := by decide +kernel
theorem dX12_copy_65 : decode cX12_copy 65 = .ok (.iload 4, 2) := by decide +kernel
theorem dX12_copy_67 : decode cX12_copy 67 = .ok (.ifCond .lt 30, 3) := by decide +kernel
theorem dX12_copy_70 : decode cX12_copy 70 = .ok (.iload_n 2, 1) := by decide +kernel
theorem dX12_copy_71 : decode cX12_copy 71 = .ok (.aload_n 0, 1) := by decide +kernel
theorem dX12_copy_72 : decode cX12_copy 72 = .ok (.getfield 118, 3) := by decide +kernel
theorem dX12_copy_75 : decode cX12_copy 75 = .ok (.iload_n 1, 1) := by decide +kernel
theorem dX12_copy_76 : decode cX12_copy 76 = .ok (.iaload, 1) := by decide +kernel
theorem dX12_copy_77 : decode cX12_copy 77 = .ok (.iload 5, 2) := by decide +kernel
theorem dX12_copy_79 : decode cX12_copy 79 = .ok (.isub, 1) := by decide +kernel
theorem dX12_copy_80 : decode cX12_copy 80 = .ok (.if_icmp .gt 17, 3) := by decide +kernel
theorem dX12_copy_83 : decode cX12_copy 83 = .ok (.iload 4, 2) := by decide +kernel
theorem dX12_copy_85 : decode cX12_copy 85 = .ok (.aload_n 0, 1) := by decide +kernel
theorem dX12_copy_86 : decode cX12_copy 86 = .ok (.getfield 118, 3) := by decide +kernel
theorem dX12_copy_89 : decode cX12_copy 89 = .ok (.iload_n 3, 1) := by decide +kernel
theorem dX12_copy_90 : decode cX12_copy 90 = .ok (.iaload, 1) := by decide +kernel
theorem dX12_copy_91 : decode cX12_copy 91 = .ok (.iload 5, 2) := by decide +kernel
theorem dX12_copy_93 : decode cX12_copy 93 = .ok (.isub, 1) := by decide +kernel
theorem dX12_copy_94 : decode cX12_copy 94 = .ok (.if_icmp .le 6, 3) := by decide +kernel
theorem dX12_copy_97 : decode cX12_copy 97 = .ok (.bipush (-12), 2) := by decide +kernel
theorem dX12_copy_99 : decode cX12_copy 99 = .ok (.ireturn, 1) := by decide +kernel
theorem dX12_copy_100 : decode cX12_copy 100 = .ok (.iconst 0, 1) := by decide +kernel
theorem dX12_copy_101 : decode cX12_copy 101 = .ok (.istore 6, 2) := by decide +kernel
theorem dX12_copy_103 : decode cX12_copy 103 = .ok (.iload 6, 2) := by decide +kernel
theorem dX12_copy_105 : decode cX12_copy 105 = .ok (.iload 5, 2) := by decide +kernel
theorem dX12_copy_107 : decode cX12_copy 107 = .ok (.if_icmp .ge 49, 3) := by decide +kernel
theorem dX12_copy_110 : decode cX12_copy 110 = .ok (.iload_n 1, 1) := by decide +kernel
theorem dX12_copy_111 : decode cX12_copy 111 = .ok (.iload_n 3, 1) := by decide +kernel
theorem dX12_copy_112 : decode cX12_copy 112 = .ok (.if_icmp .ne 9, 3) := by decide +kernel
theorem dX12_copy_115 : decode cX12_copy 115 = .ok (.iload_n 2, 1) := by decide +kernel
theorem dX12_copy_116 : decode cX12_copy 116 = .ok (.iload 4, 2) := by decide +kernel
theorem dX12_copy_118 : decode cX12_copy 118 = .ok (.if_icmp .lt 38, 3) := by decide +kernel
theorem dX12_copy_121 : decode cX12_copy 121 = .ok (.aload_n 0, 1) := by decide +kernel
theorem dX12_copy_122 : decode cX12_copy 122 = .ok (.getfield 121, 3) := by decide +kernel
theorem dX12_copy_125 : decode cX12_copy 125 = .ok (.bipush 40, 2) := by decide +kernel
theorem dX12_copy_127 : decode cX12_copy 127 = .ok (.iload_n 3, 1) := by decide +kernel
theorem dX12_copy_128 : decode cX12_copy 128 = .ok (.imul, 1) := by decide +kernel
theorem dX12_copy_129 : decode cX12_copy 129 = .ok (.iload 4, 2) := by decide +kernel
theorem dX12_copy_131 : decode cX12_copy 131 = .ok (.iadd, 1) := by decide +kernel
theorem dX12_copy_132 : decode cX12_copy 132 = .ok (.iload 6, 2) := by decide +kernel
theorem dX12_copy_134 : decode cX12_copy 134 = .ok (.iadd, 1) := by decide +kernel
theorem dX12_copy_135 : decode cX12_copy 135 = .ok (.aload_n 0, 1) := by decide +kernel
theorem dX12_copy_136 : decode cX12_copy 136 = .ok (.getfield 121, 3) := by decide +kernel
theorem dX12_copy_139 : decode cX12_copy 139 = .ok (.bipush 40, 2) := by decide +kernel
theorem dX12_copy_141 : decode cX12_copy 141 = .ok (.iload_n 1, 1) := by decide +kernel
theorem dX12_copy_142 : decode cX12_copy 142 = .ok (.imul, 1) := by decide +kernel
theorem dX12_copy_143 : decode cX12_copy 143 = .ok (.iload_n 2, 1) := by decide +kernel
theorem dX12_copy_144 : decode cX12_copy 144 = .ok (.iadd, 1) := by decide +kernel
theorem dX12_copy_145 : decode cX12_copy 145 = .ok (.iload 6, 2) := by decide +kernel
theorem dX12_copy_147 : decode cX12_copy 147 = .ok (.iadd, 1) := by decide +kernel
theorem dX12_copy_148 : decode cX12_copy 148 = .ok (.iaload, 1) := by decide +kernel
theorem dX12_copy_149 : decode cX12_copy 149 = .ok (.iastore, 1) := by decide +kernel
theorem dX12_copy_150 : decode cX12_copy 150 = .ok (.iinc 6 1, 3) := by decide +kernel
theorem dX12_copy_153 : decode cX12_copy 153 = .ok (.goto (-50), 3) := by decide +kernel
theorem dX12_copy_156 : decode cX12_copy 156 = .ok (.iload 5, 2) := by decide +kernel
theorem dX12_copy_158 : decode cX12_copy 158 = .ok (.iconst 1, 1) := by decide +kernel
theorem dX12_copy_159 : decode cX12_copy 159 = .ok (.isub, 1) := by decide +kernel
theorem dX12_copy_160 : decode cX12_copy 160 = .ok (.istore 6, 2) := by decide +kernel
theorem dX12_copy_162 : decode cX12_copy 162 = .ok (.iload 6, 2) := by decide +kernel
theorem dX12_copy_164 : decode cX12_copy 164 = .ok (.ifCond .lt 49, 3) := by decide +kernel
theorem dX12_copy_167 : decode cX12_copy 167 = .ok (.iload_n 1, 1) := by decide +kernel
theorem dX12_copy_168 : decode cX12_copy 168 = .ok (.iload_n 3, 1) := by decide +kernel
theorem dX12_copy_169 : decode cX12_copy 169 = .ok (.if_icmp .ne 44, 3) := by decide +kernel
theorem dX12_copy_172 : decode cX12_copy 172 = .ok (.iload_n 2, 1) := by decide +kernel
theorem dX12_copy_173 : decode cX12_copy 173 = .ok (.iload 4, 2) := by decide +kernel
theorem dX12_copy_175 : decode cX12_copy 175 = .ok (.if_icmp .ge 38, 3) := by decide +kernel
theorem dX12_copy_178 : decode cX12_copy 178 = .ok (.aload_n 0, 1) := by decide +kernel
theorem dX12_copy_179 : decode cX12_copy 179 = .ok (.getfield 121, 3) := by decide +kernel
theorem dX12_copy_182 : decode cX12_copy 182 = .ok (.bipush 40, 2) := by decide +kernel
theorem dX12_copy_184 : decode cX12_copy 184 = .ok (.iload_n 3, 1) := by decide +kernel
theorem dX12_copy_185 : decode cX12_copy 185 = .ok (.imul, 1) := by decide +kernel
theorem dX12_copy_186 : decode cX12_copy 186 = .ok (.iload 4, 2) := by decide +kernel
theorem dX12_copy_188 : decode cX12_copy 188 = .ok (.iadd, 1) := by decide +kernel
theorem dX12_copy_189 : decode cX12_copy 189 = .ok (.iload 6, 2) := by decide +kernel
theorem dX12_copy_191 : decode cX12_copy 191 = .ok (.iadd, 1) := by decide +kernel
theorem dX12_copy_192 : decode cX12_copy 192 = .ok (.aload_n 0, 1) := by decide +kernel
theorem dX12_copy_193 : decode cX12_copy 193 = .ok (.getfield 121, 3) := by decide +kernel
theorem dX12_copy_196 : decode cX12_copy 196 = .ok (.bipush 40, 2) := by decide +kernel
theorem dX12_copy_198 : decode cX12_copy 198 = .ok (.iload_n 1, 1) := by decide +kernel
theorem dX12_copy_199 : decode cX12_copy 199 = .ok (.imul, 1) := by decide +kernel
theorem dX12_copy_200 : decode cX12_copy 200 = .ok (.iload_n 2, 1) := by decide +kernel
theorem dX12_copy_201 : decode cX12_copy 201 = .ok (.iadd, 1) := by decide +kernel
theorem dX12_copy_202 : decode cX12_copy 202 = .ok (.iload 6, 2) := by decide +kernel
theorem dX12_copy_204 : decode cX12_copy 204 = .ok (.iadd, 1) := by decide +kernel
theorem dX12_copy_205 : decode cX12_copy 205 = .ok (.iaload, 1) := by decide +kernel
theorem dX12_copy_206 : decode cX12_copy 206 = .ok (.iastore, 1) := by decide +kernel
theorem dX12_copy_207 : decode cX12_copy 207 = .ok (.iinc 6 (-1), 3) := by decide +kernel
theorem dX12_copy_210 : decode cX12_copy 210 = .ok (.goto (-48), 3) := by decide +kernel
theorem dX12_copy_213 : decode cX12_copy 213 = .ok (.iload 5, 2) := by decide +kernel
theorem dX12_copy_215 : decode cX12_copy 215 = .ok (.ireturn, 1) := by decide +kernel
theorem dX12_papers_0 : decode cX12_papers 0 = .ok (.iload_n 1, 1) := by decide +kernel
theorem dX12_papers_1 : decode cX12_papers 1 = .ok (.invokestatic 391, 3) := by decide +kernel
theorem dX12_papers_4 : decode cX12_papers 4 = .ok (.ifCond .eq 23, 3) := by decide +kernel
theorem dX12_papers_7 : decode cX12_papers 7 = .ok (.iload_n 2, 1) := by decide +kernel
theorem dX12_papers_8 : decode cX12_papers 8 = .ok (.iconst 0, 1) := by decide +kernel
theorem dX12_papers_9 : decode cX12_papers 9 = .ok (.iconst 2, 1) := by decide +kernel
theorem dX12_papers_10 : decode cX12_papers 10 = .ok (.invokestatic 148, 3) := by decide +kernel
theorem dX12_papers_13 : decode cX12_papers 13 = .ok (.ifCond .eq 14, 3) := by decide +kernel
theorem dX12_papers_16 : decode cX12_papers 16 = .ok (.iload 4, 2) := by decide +kernel
theorem dX12_papers_18 : decode cX12_papers 18 = .ok (.iconst 0, 1) := by decide +kernel
theorem dX12_papers_19 : decode cX12_papers 19 = .ok (.bipush 8, 2) := by decide +kernel
theorem dX12_papers_21 : decode cX12_papers 21 = .ok (.invokestatic 148, 3) := by decide +kernel
theorem dX12_papers_24 : decode cX12_papers 24 = .ok (.ifCond .ne 6, 3) := by decide +kernel
theorem dX12_papers_27 : decode cX12_papers 27 = .ok (.bipush (-2), 2) := by decide +kernel
theorem dX12_papers_29 : decode cX12_papers 29 = .ok (.ireturn, 1) := by decide +kernel
theorem dX12_papers_30 : decode cX12_papers 30 = .ok (.aload_n 0, 1) := by decide +kernel
theorem dX12_papers_31 : decode cX12_papers 31 = .ok (.getfield 112, 3) := by decide +kernel
theorem dX12_papers_34 : decode cX12_papers 34 = .ok (.iload_n 1, 1) := by decide +kernel
theorem dX12_papers_35 : decode cX12_papers 35 = .ok (.baload, 1) := by decide +kernel
theorem dX12_papers_36 : decode cX12_papers 36 = .ok (.ifCond .eq 16, 3) := by decide +kernel
theorem dX12_papers_39 : decode cX12_papers 39 = .ok (.aload_n 0, 1) := by decide +kernel
theorem dX12_papers_40 : decode cX12_papers 40 = .ok (.getfield 115, 3) := by decide +kernel
theorem dX12_papers_43 : decode cX12_papers 43 = .ok (.iload_n 1, 1) := by decide +kernel
theorem dX12_papers_44 : decode cX12_papers 44 = .ok (.iaload, 1) := by decide +kernel
theorem dX12_papers_45 : decode cX12_papers 45 = .ok (.iload_n 2, 1) := by decide +kernel
theorem dX12_papers_46 : decode cX12_papers 46 = .ok (.if_icmp .eq 6, 3) := by decide +kernel
theorem dX12_papers_49 : decode cX12_papers 49 = .ok (.bipush (-13), 2) := by decide +kernel
theorem dX12_papers_51 : decode cX12_papers 51 = .ok (.ireturn, 1) := by decide +kernel
theorem dX12_papers_52 : decode cX12_papers 52 = .ok (.aload_n 0, 1) := by decide +kernel
theorem dX12_papers_53 : decode cX12_papers 53 = .ok (.getfield 112, 3) := by decide +kernel
theorem dX12_papers_56 : decode cX12_papers 56 = .ok (.iload_n 1, 1) := by decide +kernel
theorem dX12_papers_57 : decode cX12_papers 57 = .ok (.baload, 1) := by decide +kernel
theorem dX12_papers_58 : decode cX12_papers 58 = .ok (.ifCond .ne 6, 3) := by decide +kernel
theorem dX12_papers_61 : decode cX12_papers 61 = .ok (.bipush (-11), 2) := by decide +kernel
theorem dX12_papers_63 : decode cX12_papers 63 = .ok (.ireturn, 1) := by decide +kernel
theorem dX12_papers_64 : decode cX12_papers 64 = .ok (.iload 4, 2) := by decide +kernel
theorem dX12_papers_66 : decode cX12_papers 66 = .ok (.ifCond .le 10, 3) := by decide +kernel
theorem dX12_papers_69 : decode cX12_papers 69 = .ok (.iload_n 3, 1) := by decide +kernel
theorem dX12_papers_70 : decode cX12_papers 70 = .ok (.ifCond .ge 6, 3) := by decide +kernel
theorem dX12_papers_73 : decode cX12_papers 73 = .ok (.bipush (-12), 2) := by decide +kernel
theorem dX12_papers_75 : decode cX12_papers 75 = .ok (.ireturn, 1) := by decide +kernel
theorem dX12_papers_76 : decode cX12_papers 76 = .ok (.iconst 0, 1) := by decide +kernel
theorem dX12_papers_77 : decode cX12_papers 77 = .ok (.istore 5, 2) := by decide +kernel
theorem dX12_papers_79 : decode cX12_papers 79 = .ok (.iconst 0, 1) := by decide +kernel
theorem dX12_papers_80 : decode cX12_papers 80 = .ok (.istore 6, 2) := by decide +kernel
theorem dX12_papers_82 : decode cX12_papers 82 = .ok (.iload 6, 2) := by decide +kernel
theorem dX12_papers_84 : decode cX12_papers 84 = .ok (.iload 4, 2) := by decide +kernel
theorem dX12_papers_86 : decode cX12_papers 86 = .ok (.if_icmp .ge 95, 3) := by decide +kernel
theorem dX12_papers_89 : decode cX12_papers 89 = .ok (.iload_n 3, 1) := by decide +kernel
theorem dX12_papers_90 : decode cX12_papers 90 = .ok (.aload_n 0, 1) := by decide +kernel
theorem dX12_papers_91 : decode cX12_papers 91 = .ok (.getfield 118, 3) := by decide +kernel
theorem dX12_papers_94 : decode cX12_papers 94 = .ok (.iload_n 1, 1) := by decide +kernel
theorem dX12_papers_95 : decode cX12_papers 95 = .ok (.iaload, 1) := by decide +kernel
theorem dX12_papers_96 : decode cX12_papers 96 = .ok (.iconst 5, 1) := by decide +kernel
theorem dX12_papers_97 : decode cX12_papers 97 = .ok (.iload 6, 2) := by decide +kernel
theorem dX12_papers_99 : decode cX12_papers 99 = .ok (.imul, 1) := by decide +kernel
theorem dX12_papers_100 : decode cX12_papers 100 = .ok (.isub, 1) := by decide +kernel
theorem dX12_papers_101 : decode cX12_papers 101 = .ok (.iconst 5, 1) := by decide +kernel
theorem dX12_papers_102 : decode cX12_papers 102 = .ok (.isub, 1) := by decide +kernel
theorem dX12_papers_103 : decode cX12_papers 103 = .ok (.if_icmp .le 6, 3) := by decide +kernel
theorem dX12_papers_106 : decode cX12_papers 106 = .ok (.bipush (-12), 2) := by decide +kernel
theorem dX12_papers_108 : decode cX12_papers 108 = .ok (.ireturn, 1) := by decide +kernel
theorem dX12_papers_109 : decode cX12_papers 109 = .ok (.bipush 40, 2) := by decide +kernel
theorem dX12_papers_111 : decode cX12_papers 111 = .ok (.iload_n 1, 1) := by decide +kernel
theorem dX12_papers_112 : decode cX12_papers 112 = .ok (.imul, 1) := by decide +kernel
theorem dX12_papers_113 : decode cX12_papers 113 = .ok (.iload_n 3, 1) := by decide +kernel
theorem dX12_papers_114 : decode cX12_papers 114 = .ok (.iadd, 1) := by decide +kernel
theorem dX12_papers_115 : decode cX12_papers 115 = .ok (.iconst 5, 1) := by decide +kernel
theorem dX12_papers_116 : decode cX12_papers 116 = .ok (.iload 6, 2) := by decide +kernel
theorem dX12_papers_118 : decode cX12_papers 118 = .ok (.imul, 1) := by decide +kernel
theorem dX12_papers_119 : decode cX12_papers 119 = .ok (.iadd, 1) := by decide +kernel
theorem dX12_papers_120 : decode cX12_papers 120 = .ok (.istore 7, 2) := by decide +kernel
theorem dX12_papers_122 : decode cX12_papers 122 = .ok (.aload_n 0, 1) := by decide +kernel
theorem dX12_papers_123 : decode cX12_papers 123 = .ok (.aload_n 0, 1) := by decide +kernel
theorem dX12_papers_124 : decode cX12_papers 124 = .ok (.getfield 121, 3) := by decide +kernel
theorem dX12_papers_127 : decode cX12_papers 127 = .ok (.iload 7, 2) := by decide +kernel
theorem dX12_papers_129 : decode cX12_papers 129 = .ok (.iaload, 1) := by decide +kernel
theorem dX12_papers_130 : decode cX12_papers 130 = .ok (.aload_n 0, 1) := by decide +kernel
theorem dX12_papers_131 : decode cX12_papers 131 = .ok (.getfield 121, 3) := by decide +kernel
theorem dX12_papers_134 : decode cX12_papers 134 = .ok (.iload 7, 2) := by decide +kernel
theorem dX12_papers_136 : decode cX12_papers 136 = .ok (.iconst 1, 1) := by decide +kernel
theorem dX12_papers_137 : decode cX12_papers 137 = .ok (.iadd, 1) := by decide +kernel
theorem dX12_papers_138 : decode cX12_papers 138 = .ok (.iaload, 1) := by decide +kernel
theorem dX12_papers_139 : decode cX12_papers 139 = .ok (.aload_n 0, 1) := by decide +kernel
theorem dX12_papers_140 : decode cX12_papers 140 = .ok (.getfield 121, 3) := by decide +kernel
theorem dX12_papers_143 : decode cX12_papers 143 = .ok (.iload 7, 2) := by decide +kernel
theorem dX12_papers_145 : decode cX12_papers 145 = .ok (.iconst 2, 1) := by decide +kernel
theorem dX12_papers_146 : decode cX12_papers 146 = .ok (.iadd, 1) := by decide +kernel
theorem dX12_papers_147 : decode cX12_papers 147 = .ok (.iaload, 1) := by decide +kernel
theorem dX12_papers_148 : decode cX12_papers 148 = .ok (.aload_n 0, 1) := by decide +kernel
theorem dX12_papers_149 : decode cX12_papers 149 = .ok (.getfield 121, 3) := by decide +kernel
theorem dX12_papers_152 : decode cX12_papers 152 = .ok (.iload 7, 2) := by decide +kernel
theorem dX12_papers_154 : decode cX12_papers 154 = .ok (.iconst 3, 1) := by decide +kernel
theorem dX12_papers_155 : decode cX12_papers 155 = .ok (.iadd, 1) := by decide +kernel
theorem dX12_papers_156 : decode cX12_papers 156 = .ok (.iaload, 1) := by decide +kernel
theorem dX12_papers_157 : decode cX12_papers 157 = .ok (.aload_n 0, 1) := by decide +kernel
theorem dX12_papers_158 : decode cX12_papers 158 = .ok (.getfield 121, 3) := by decide +kernel
theorem dX12_papers_161 : decode cX12_papers 161 = .ok (.iload 7, 2) := by decide +kernel
theorem dX12_papers_163 : decode cX12_papers 163 = .ok (.iconst 4, 1) := by decide +kernel
theorem dX12_papers_164 : decode cX12_papers 164 = .ok (.iadd, 1) := by decide +kernel
theorem dX12_papers_165 : decode cX12_papers 165 = .ok (.iaload, 1) := by decide +kernel
theorem dX12_papers_166 : decode cX12_papers 166 = .ok (.invokevirtual 394, 3) := by decide +kernel
theorem dX12_papers_169 : decode cX12_papers 169 = .ok (.ifCond .lt 6, 3) := by decide +kernel
theorem dX12_papers_172 : decode cX12_papers 172 = .ok (.iinc 5 1, 3) := by decide +kernel
theorem dX12_papers_175 : decode cX12_papers 175 = .ok (.iinc 6 1, 3) := by decide +kernel
theorem dX12_papers_178 : decode cX12_papers 178 = .ok (.goto (-96), 3) := by decide +kernel
theorem dX12_papers_181 : decode cX12_papers 181 = .ok (.iload 5, 2) := by decide +kernel
theorem dX12_papers_183 : decode cX12_papers 183 = .ok (.ireturn, 1) := by decide +kernel
theorem dX12_over_0 : decode cX12_over 0 = .ok (.iload_n 0, 1) := by decide +kernel
theorem dX12_over_1 : decode cX12_over 1 = .ok (.ifCond .ne 7, 3) := by decide +kernel
theorem dX12_over_4 : decode cX12_over 4 = .ok (.iconst (-1), 1) := by decide +kernel
theorem dX12_over_5 : decode cX12_over 5 = .ok (.goto 22, 3) := by decide +kernel
theorem dX12_over_8 : decode cX12_over 8 = .ok (.iload_n 0, 1) := by decide +kernel
theorem dX12_over_9 : decode cX12_over 9 = .ok (.iconst 3, 1) := by decide +kernel
theorem dX12_over_10 : decode cX12_over 10 = .ok (.if_icmp .ne 7, 3) := by decide +kernel
theorem dX12_over_13 : decode cX12_over 13 = .ok (.iconst 1, 1) := by decide +kernel
theorem dX12_over_14 : decode cX12_over 14 = .ok (.goto 13, 3) := by decide +kernel
theorem dX12_over_17 : decode cX12_over 17 = .ok (.iload_n 0, 1) := by decide +kernel
theorem dX12_over_18 : decode cX12_over 18 = .ok (.iconst 4, 1) := by decide +kernel
theorem dX12_over_19 : decode cX12_over 19 = .ok (.if_icmp .ne 7, 3) := by decide +kernel
theorem dX12_over_22 : decode cX12_over 22 = .ok (.iconst 2, 1) := by decide +kernel
theorem dX12_over_23 : decode cX12_over 23 = .ok (.goto 4, 3) := by decide +kernel
theorem dX12_over_26 : decode cX12_over 26 = .ok (.iconst 0, 1) := by decide +kernel
theorem dX12_over_27 : decode cX12_over 27 = .ok (.ireturn, 1) := by decide +kernel
theorem dX12_taken_0 : decode cX12_taken 0 = .ok (.iload_n 2, 1) := by decide +kernel
theorem dX12_taken_1 : decode cX12_taken 1 = .ok (.iconst 0, 1) := by decide +kernel
theorem dX12_taken_2 : decode cX12_taken 2 = .ok (.iconst 5, 1) := by decide +kernel
theorem dX12_taken_3 : decode cX12_taken 3 = .ok (.invokestatic 148, 3) := by decide +kernel
theorem dX12_taken_6 : decode cX12_taken 6 = .ok (.ifCond .ne 6, 3) := by decide +kernel
theorem dX12_taken_9 : decode cX12_taken 9 = .ok (.bipush (-2), 2) := by decide +kernel
theorem dX12_taken_11 : decode cX12_taken 11 = .ok (.ireturn, 1) := by decide +kernel
theorem dX12_taken_12 : decode cX12_taken 12 = .ok (.aload_n 0, 1) := by decide +kernel
theorem dX12_taken_13 : decode cX12_taken 13 = .ok (.iload_n 1, 1) := by decide +kernel
theorem dX12_taken_14 : decode cX12_taken 14 = .ok (.invokevirtual 165, 3) := by decide +kernel
theorem dX12_taken_17 : decode cX12_taken 17 = .ok (.ifCond .ne 6, 3) := by decide +kernel
theorem dX12_taken_20 : decode cX12_taken 20 = .ok (.bipush (-11), 2) := by decide +kernel
theorem dX12_taken_22 : decode cX12_taken 22 = .ok (.ireturn, 1) := by decide +kernel
theorem dX12_taken_23 : decode cX12_taken 23 = .ok (.aload_n 0, 1) := by decide +kernel
theorem dX12_taken_24 : decode cX12_taken 24 = .ok (.getfield 26, 3) := by decide +kernel
theorem dX12_taken_27 : decode cX12_taken 27 = .ok (.iload_n 1, 1) := by decide +kernel
theorem dX12_taken_28 : decode cX12_taken 28 = .ok (.iaload, 1) := by decide +kernel
theorem dX12_taken_29 : decode cX12_taken 29 = .ok (.istore_n 3, 1) := by decide +kernel
theorem dX12_taken_30 : decode cX12_taken 30 = .ok (.iload_n 3, 1) := by decide +kernel
theorem dX12_taken_31 : decode cX12_taken 31 = .ok (.iconst (-1), 1) := by decide +kernel
theorem dX12_taken_32 : decode cX12_taken 32 = .ok (.if_icmp .eq 16, 3) := by decide +kernel
theorem dX12_taken_35 : decode cX12_taken 35 = .ok (.iload_n 3, 1) := by decide +kernel
theorem dX12_taken_36 : decode cX12_taken 36 = .ok (.iload_n 2, 1) := by decide +kernel
theorem dX12_taken_37 : decode cX12_taken 37 = .ok (.if_icmp .eq 11, 3) := by decide +kernel
theorem dX12_taken_40 : decode cX12_taken 40 = .ok (.iload_n 3, 1) := by decide +kernel
theorem dX12_taken_41 : decode cX12_taken 41 = .ok (.invokestatic 397, 3) := by decide +kernel
theorem dX12_taken_44 : decode cX12_taken 44 = .ok (.istore_n 3, 1) := by decide +kernel
theorem dX12_taken_45 : decode cX12_taken 45 = .ok (.goto (-15), 3) := by decide +kernel
theorem dX12_taken_48 : decode cX12_taken 48 = .ok (.iload_n 3, 1) := by decide +kernel
theorem dX12_taken_49 : decode cX12_taken 49 = .ok (.iload_n 2, 1) := by decide +kernel
theorem dX12_taken_50 : decode cX12_taken 50 = .ok (.if_icmp .ne 12, 3) := by decide +kernel
theorem dX12_taken_53 : decode cX12_taken 53 = .ok (.aload_n 0, 1) := by decide +kernel
theorem dX12_taken_54 : decode cX12_taken 54 = .ok (.getfield 29, 3) := by decide +kernel
theorem dX12_taken_57 : decode cX12_taken 57 = .ok (.iload_n 1, 1) := by decide +kernel
theorem dX12_taken_58 : decode cX12_taken 58 = .ok (.iaload, 1) := by decide +kernel
theorem dX12_taken_59 : decode cX12_taken 59 = .ok (.goto 5, 3) := by decide +kernel
theorem dX12_taken_62 : decode cX12_taken 62 = .ok (.bipush (-13), 2) := by decide +kernel
theorem dX12_taken_64 : decode cX12_taken 64 = .ok (.ireturn, 1) := by decide +kernel
theorem dJ6_numberOfTrailingZeros_0f7a4_0 : decode cJ6_numberOfTrailingZeros_0f7a4 0 = .ok (.iload_n 0, 1) := by decide +kernel
theorem dJ6_numberOfTrailingZeros_0f7a4_1 : decode cJ6_numberOfTrailingZeros_0f7a4 1 = .ok (.iconst (-1), 1) := by decide +kernel
theorem dJ6_numberOfTrailingZeros_0f7a4_2 : decode cJ6_numberOfTrailingZeros_0f7a4 2 = .ok (.ixor, 1) := by decide +kernel
theorem dJ6_numberOfTrailingZeros_0f7a4_3 : decode cJ6_numberOfTrailingZeros_0f7a4 3 = .ok (.iload_n 0, 1) := by decide +kernel
theorem dJ6_numberOfTrailingZeros_0f7a4_4 : decode cJ6_numberOfTrailingZeros_0f7a4 4 = .ok (.iconst 1, 1) := by decide +kernel
theorem dJ6_numberOfTrailingZeros_0f7a4_5 : decode cJ6_numberOfTrailingZeros_0f7a4 5 = .ok (.isub, 1) := by decide +kernel
theorem dJ6_numberOfTrailingZeros_0f7a4_6 : decode cJ6_numberOfTrailingZeros_0f7a4 6 = .ok (.iand, 1) := by decide +kernel
theorem dJ6_numberOfTrailingZeros_0f7a4_7 : decode cJ6_numberOfTrailingZeros_0f7a4 7 = .ok (.istore_n 0, 1) := by decide +kernel
theorem dJ6_numberOfTrailingZeros_0f7a4_8 : decode cJ6_numberOfTrailingZeros_0f7a4 8 = .ok (.iload_n 0, 1) := by decide +kernel
theorem dJ6_numberOfTrailingZeros_0f7a4_9 : decode cJ6_numberOfTrailingZeros_0f7a4 9 = .ok (.ifCond .gt 8, 3) := by decide +kernel
theorem dJ6_numberOfTrailingZeros_0f7a4_12 : decode cJ6_numberOfTrailingZeros_0f7a4 12 = .ok (.iload_n 0, 1) := by decide +kernel
theorem dJ6_numberOfTrailingZeros_0f7a4_13 : decode cJ6_numberOfTrailingZeros_0f7a4 13 = .ok (.bipush 32, 2) := by decide +kernel
theorem dJ6_numberOfTrailingZeros_0f7a4_15 : decode cJ6_numberOfTrailingZeros_0f7a4 15 = .ok (.iand, 1) := by decide +kernel
theorem dJ6_numberOfTrailingZeros_0f7a4_16 : decode cJ6_numberOfTrailingZeros_0f7a4 16 = .ok (.ireturn, 1) := by decide +kernel
theorem dJ6_numberOfTrailingZeros_0f7a4_17 : decode cJ6_numberOfTrailingZeros_0f7a4 17 = .ok (.iconst 1, 1) := by decide +kernel
theorem dJ6_numberOfTrailingZeros_0f7a4_18 : decode cJ6_numberOfTrailingZeros_0f7a4 18 = .ok (.istore_n 1, 1) := by decide +kernel
theorem dJ6_numberOfTrailingZeros_0f7a4_19 : decode cJ6_numberOfTrailingZeros_0f7a4 19 = .ok (.iload_n 0, 1) := by decide +kernel
theorem dJ6_numberOfTrailingZeros_0f7a4_20 : decode cJ6_numberOfTrailingZeros_0f7a4 20 = .ok (.ldc_w 264, 3) := by decide +kernel
theorem dJ6_numberOfTrailingZeros_0f7a4_23 : decode cJ6_numberOfTrailingZeros_0f7a4 23 = .ok (.if_icmp .le 11, 3) := by decide +kernel
theorem dJ6_numberOfTrailingZeros_0f7a4_26 : decode cJ6_numberOfTrailingZeros_0f7a4 26 = .ok (.iinc 1 16, 3) := by decide +kernel
theorem dJ6_numberOfTrailingZeros_0f7a4_29 : decode cJ6_numberOfTrailingZeros_0f7a4 29 = .ok (.iload_n 0, 1) := by decide +kernel
theorem dJ6_numberOfTrailingZeros_0f7a4_30 : decode cJ6_numberOfTrailingZeros_0f7a4 30 = .ok (.bipush 16, 2) := by decide +kernel
theorem dJ6_numberOfTrailingZeros_0f7a4_32 : decode cJ6_numberOfTrailingZeros_0f7a4 32 = .ok (.iushr, 1) := by decide +kernel
theorem dJ6_numberOfTrailingZeros_0f7a4_33 : decode cJ6_numberOfTrailingZeros_0f7a4 33 = .ok (.istore_n 0, 1) := by decide +kernel
theorem dJ6_numberOfTrailingZeros_0f7a4_34 : decode cJ6_numberOfTrailingZeros_0f7a4 34 = .ok (.iload_n 0, 1) := by decide +kernel
theorem dJ6_numberOfTrailingZeros_0f7a4_35 : decode cJ6_numberOfTrailingZeros_0f7a4 35 = .ok (.sipush 256, 3) := by decide +kernel
theorem dJ6_numberOfTrailingZeros_0f7a4_38 : decode cJ6_numberOfTrailingZeros_0f7a4 38 = .ok (.if_icmp .le 11, 3) := by decide +kernel
theorem dJ6_numberOfTrailingZeros_0f7a4_41 : decode cJ6_numberOfTrailingZeros_0f7a4 41 = .ok (.iinc 1 8, 3) := by decide +kernel
theorem dJ6_numberOfTrailingZeros_0f7a4_44 : decode cJ6_numberOfTrailingZeros_0f7a4 44 = .ok (.iload_n 0, 1) := by decide +kernel
theorem dJ6_numberOfTrailingZeros_0f7a4_45 : decode cJ6_numberOfTrailingZeros_0f7a4 45 = .ok (.bipush 8, 2) := by decide +kernel
theorem dJ6_numberOfTrailingZeros_0f7a4_47 : decode cJ6_numberOfTrailingZeros_0f7a4 47 = .ok (.iushr, 1) := by decide +kernel
theorem dJ6_numberOfTrailingZeros_0f7a4_48 : decode cJ6_numberOfTrailingZeros_0f7a4 48 = .ok (.istore_n 0, 1) := by decide +kernel
theorem dJ6_numberOfTrailingZeros_0f7a4_49 : decode cJ6_numberOfTrailingZeros_0f7a4 49 = .ok (.iload_n 0, 1) := by decide +kernel
theorem dJ6_numberOfTrailingZeros_0f7a4_50 : decode cJ6_numberOfTrailingZeros_0f7a4 50 = .ok (.bipush 16, 2) := by decide +kernel
theorem dJ6_numberOfTrailingZeros_0f7a4_52 : decode cJ6_numberOfTrailingZeros_0f7a4 52 = .ok (.if_icmp .le 10, 3) := by decide +kernel
theorem dJ6_numberOfTrailingZeros_0f7a4_55 : decode cJ6_numberOfTrailingZeros_0f7a4 55 = .ok (.iinc 1 4, 3) := by decide +kernel
theorem dJ6_numberOfTrailingZeros_0f7a4_58 : decode cJ6_numberOfTrailingZeros_0f7a4 58 = .ok (.iload_n 0, 1) := by decide +kernel
theorem dJ6_numberOfTrailingZeros_0f7a4_59 : decode cJ6_numberOfTrailingZeros_0f7a4 59 = .ok (.iconst 4, 1) := by decide +kernel
theorem dJ6_numberOfTrailingZeros_0f7a4_60 : decode cJ6_numberOfTrailingZeros_0f7a4 60 = .ok (.iushr, 1) := by decide +kernel
theorem dJ6_numberOfTrailingZeros_0f7a4_61 : decode cJ6_numberOfTrailingZeros_0f7a4 61 = .ok (.istore_n 0, 1) := by decide +kernel
theorem dJ6_numberOfTrailingZeros_0f7a4_62 : decode cJ6_numberOfTrailingZeros_0f7a4 62 = .ok (.iload_n 0, 1) := by decide +kernel
theorem dJ6_numberOfTrailingZeros_0f7a4_63 : decode cJ6_numberOfTrailingZeros_0f7a4 63 = .ok (.iconst 4, 1) := by decide +kernel
theorem dJ6_numberOfTrailingZeros_0f7a4_64 : decode cJ6_numberOfTrailingZeros_0f7a4 64 = .ok (.if_icmp .le 10, 3) := by decide +kernel
theorem dJ6_numberOfTrailingZeros_0f7a4_67 : decode cJ6_numberOfTrailingZeros_0f7a4 67 = .ok (.iinc 1 2, 3) := by decide +kernel
theorem dJ6_numberOfTrailingZeros_0f7a4_70 : decode cJ6_numberOfTrailingZeros_0f7a4 70 = .ok (.iload_n 0, 1) := by decide +kernel
theorem dJ6_numberOfTrailingZeros_0f7a4_71 : decode cJ6_numberOfTrailingZeros_0f7a4 71 = .ok (.iconst 2, 1) := by decide +kernel
theorem dJ6_numberOfTrailingZeros_0f7a4_72 : decode cJ6_numberOfTrailingZeros_0f7a4 72 = .ok (.iushr, 1) := by decide +kernel
theorem dJ6_numberOfTrailingZeros_0f7a4_73 : decode cJ6_numberOfTrailingZeros_0f7a4 73 = .ok (.istore_n 0, 1) := by decide +kernel
theorem dJ6_numberOfTrailingZeros_0f7a4_74 : decode cJ6_numberOfTrailingZeros_0f7a4 74 = .ok (.iload_n 1, 1) := by decide +kernel
theorem dJ6_numberOfTrailingZeros_0f7a4_75 : decode cJ6_numberOfTrailingZeros_0f7a4 75 = .ok (.iload_n 0, 1) := by decide +kernel
theorem dJ6_numberOfTrailingZeros_0f7a4_76 : decode cJ6_numberOfTrailingZeros_0f7a4 76 = .ok (.iconst 1, 1) := by decide +kernel
theorem dJ6_numberOfTrailingZeros_0f7a4_77 : decode cJ6_numberOfTrailingZeros_0f7a4 77 = .ok (.iushr, 1) := by decide +kernel
theorem dJ6_numberOfTrailingZeros_0f7a4_78 : decode cJ6_numberOfTrailingZeros_0f7a4 78 = .ok (.iadd, 1) := by decide +kernel
theorem dJ6_numberOfTrailingZeros_0f7a4_79 : decode cJ6_numberOfTrailingZeros_0f7a4 79 = .ok (.ireturn, 1) := by decide +kernel
theorem dJ6_bitCount_0f7a4_0 : decode cJ6_bitCount_0f7a4 0 = .ok (.iload_n 0, 1) := by decide +kernel
theorem dJ6_bitCount_0f7a4_1 : decode cJ6_bitCount_0f7a4 1 = .ok (.iload_n 0, 1) := by decide +kernel
theorem dJ6_bitCount_0f7a4_2 : decode cJ6_bitCount_0f7a4 2 = .ok (.iconst 1, 1) := by decide +kernel
theorem dJ6_bitCount_0f7a4_3 : decode cJ6_bitCount_0f7a4 3 = .ok (.iushr, 1) := by decide +kernel
theorem dJ6_bitCount_0f7a4_4 : decode cJ6_bitCount_0f7a4 4 = .ok (.ldc_w 265, 3) := by decide +kernel
theorem dJ6_bitCount_0f7a4_7 : decode cJ6_bitCount_0f7a4 7 = .ok (.iand, 1) := by decide +kernel
theorem dJ6_bitCount_0f7a4_8 : decode cJ6_bitCount_0f7a4 8 = .ok (.isub, 1) := by decide +kernel
theorem dJ6_bitCount_0f7a4_9 : decode cJ6_bitCount_0f7a4 9 = .ok (.istore_n 0, 1) := by decide +kernel
theorem dJ6_bitCount_0f7a4_10 : decode cJ6_bitCount_0f7a4 10 = .ok (.iload_n 0, 1) := by decide +kernel
theorem dJ6_bitCount_0f7a4_11 : decode cJ6_bitCount_0f7a4 11 = .ok (.ldc_w 266, 3) := by decide +kernel
theorem dJ6_bitCount_0f7a4_14 : decode cJ6_bitCount_0f7a4 14 = .ok (.iand, 1) := by decide +kernel
theorem dJ6_bitCount_0f7a4_15 : decode cJ6_bitCount_0f7a4 15 = .ok (.iload_n 0, 1) := by decide +kernel
theorem dJ6_bitCount_0f7a4_16 : decode cJ6_bitCount_0f7a4 16 = .ok (.iconst 2, 1) := by decide +kernel
theorem dJ6_bitCount_0f7a4_17 : decode cJ6_bitCount_0f7a4 17 = .ok (.iushr, 1) := by decide +kernel
theorem dJ6_bitCount_0f7a4_18 : decode cJ6_bitCount_0f7a4 18 = .ok (.ldc_w 266, 3) := by decide +kernel
theorem dJ6_bitCount_0f7a4_21 : decode cJ6_bitCount_0f7a4 21 = .ok (.iand, 1) := by decide +kernel
theorem dJ6_bitCount_0f7a4_22 : decode cJ6_bitCount_0f7a4 22 = .ok (.iadd, 1) := by decide +kernel
theorem dJ6_bitCount_0f7a4_23 : decode cJ6_bitCount_0f7a4 23 = .ok (.istore_n 0, 1) := by decide +kernel
theorem dJ6_bitCount_0f7a4_24 : decode cJ6_bitCount_0f7a4 24 = .ok (.iload_n 0, 1) := by decide +kernel
theorem dJ6_bitCount_0f7a4_25 : decode cJ6_bitCount_0f7a4 25 = .ok (.iload_n 0, 1) := by decide +kernel
theorem dJ6_bitCount_0f7a4_26 : decode cJ6_bitCount_0f7a4 26 = .ok (.iconst 4, 1) := by decide +kernel
theorem dJ6_bitCount_0f7a4_27 : decode cJ6_bitCount_0f7a4 27 = .ok (.iushr, 1) := by decide +kernel
theorem dJ6_bitCount_0f7a4_28 : decode cJ6_bitCount_0f7a4 28 = .ok (.iadd, 1) := by decide +kernel
theorem dJ6_bitCount_0f7a4_29 : decode cJ6_bitCount_0f7a4 29 = .ok (.ldc_w 267, 3) := by decide +kernel
theorem dJ6_bitCount_0f7a4_32 : decode cJ6_bitCount_0f7a4 32 = .ok (.iand, 1) := by decide +kernel
theorem dJ6_bitCount_0f7a4_33 : decode cJ6_bitCount_0f7a4 33 = .ok (.istore_n 0, 1) := by decide +kernel
theorem dJ6_bitCount_0f7a4_34 : decode cJ6_bitCount_0f7a4 34 = .ok (.iload_n 0, 1) := by decide +kernel
theorem dJ6_bitCount_0f7a4_35 : decode cJ6_bitCount_0f7a4 35 = .ok (.iload_n 0, 1) := by decide +kernel
theorem dJ6_bitCount_0f7a4_36 : decode cJ6_bitCount_0f7a4 36 = .ok (.bipush 8, 2) := by decide +kernel
theorem dJ6_bitCount_0f7a4_38 : decode cJ6_bitCount_0f7a4 38 = .ok (.iushr, 1) := by decide +kernel
theorem dJ6_bitCount_0f7a4_39 : decode cJ6_bitCount_0f7a4 39 = .ok (.iadd, 1) := by decide +kernel
theorem dJ6_bitCount_0f7a4_40 : decode cJ6_bitCount_0f7a4 40 = .ok (.istore_n 0, 1) := by decide +kernel
theorem dJ6_bitCount_0f7a4_41 : decode cJ6_bitCount_0f7a4 41 = .ok (.iload_n 0, 1) := by decide +kernel
theorem dJ6_bitCount_0f7a4_42 : decode cJ6_bitCount_0f7a4 42 = .ok (.iload_n 0, 1) := by decide +kernel
theorem dJ6_bitCount_0f7a4_43 : decode cJ6_bitCount_0f7a4 43 = .ok (.bipush 16, 2) := by decide +kernel
theorem dJ6_bitCount_0f7a4_45 : decode cJ6_bitCount_0f7a4 45 = .ok (.iushr, 1) := by decide +kernel
theorem dJ6_bitCount_0f7a4_46 : decode cJ6_bitCount_0f7a4 46 = .ok (.iadd, 1) := by decide +kernel
theorem dJ6_bitCount_0f7a4_47 : decode cJ6_bitCount_0f7a4 47 = .ok (.istore_n 0, 1) := by decide +kernel
theorem dJ6_bitCount_0f7a4_48 : decode cJ6_bitCount_0f7a4 48 = .ok (.iload_n 0, 1) := by decide +kernel
theorem dJ6_bitCount_0f7a4_49 : decode cJ6_bitCount_0f7a4 49 = .ok (.bipush 63, 2) := by decide +kernel
theorem dJ6_bitCount_0f7a4_51 : decode cJ6_bitCount_0f7a4 51 = .ok (.iand, 1) := by decide +kernel
theorem dJ6_bitCount_0f7a4_52 : decode cJ6_bitCount_0f7a4 52 = .ok (.ireturn, 1) := by decide +kernel
theorem dJ9_floorMod_7cf53_0 : decode cJ9_floorMod_7cf53 0 = .ok (.iload_n 0, 1) := by decide +kernel
theorem dJ9_floorMod_7cf53_1 : decode cJ9_floorMod_7cf53 1 = .ok (.iload_n 1, 1) := by decide +kernel
theorem dJ9_floorMod_7cf53_2 : decode cJ9_floorMod_7cf53 2 = .ok (.irem, 1) := by decide +kernel
theorem dJ9_floorMod_7cf53_3 : decode cJ9_floorMod_7cf53 3 = .ok (.istore_n 2, 1) := by decide +kernel
theorem dJ9_floorMod_7cf53_4 : decode cJ9_floorMod_7cf53 4 = .ok (.iload_n 0, 1) := by decide +kernel
theorem dJ9_floorMod_7cf53_5 : decode cJ9_floorMod_7cf53 5 = .ok (.iload_n 1, 1) := by decide +kernel
theorem dJ9_floorMod_7cf53_6 : decode cJ9_floorMod_7cf53 6 = .ok (.ixor, 1) := by decide +kernel
theorem dJ9_floorMod_7cf53_7 : decode cJ9_floorMod_7cf53 7 = .ok (.ifCond .ge 11, 3) := by decide +kernel
theorem dJ9_floorMod_7cf53_10 : decode cJ9_floorMod_7cf53 10 = .ok (.iload_n 2, 1) := by decide +kernel
theorem dJ9_floorMod_7cf53_11 : decode cJ9_floorMod_7cf53 11 = .ok (.ifCond .eq 7, 3) := by decide +kernel
theorem dJ9_floorMod_7cf53_14 : decode cJ9_floorMod_7cf53 14 = .ok (.iload_n 2, 1) := by decide +kernel
theorem dJ9_floorMod_7cf53_15 : decode cJ9_floorMod_7cf53 15 = .ok (.iload_n 1, 1) := by decide +kernel
theorem dJ9_floorMod_7cf53_16 : decode cJ9_floorMod_7cf53 16 = .ok (.iadd, 1) := by decide +kernel
theorem dJ9_floorMod_7cf53_17 : decode cJ9_floorMod_7cf53 17 = .ok (.ireturn, 1) := by decide +kernel
theorem dJ9_floorMod_7cf53_18 : decode cJ9_floorMod_7cf53 18 = .ok (.iload_n 2, 1) := by decide +kernel
theorem dJ9_floorMod_7cf53_19 : decode cJ9_floorMod_7cf53 19 = .ok (.ireturn, 1) := by decide +kernel
theorem dJ9_max_7cf53_0 : decode cJ9_max_7cf53 0 = .ok (.iload_n 0, 1) := by decide +kernel
theorem dJ9_max_7cf53_1 : decode cJ9_max_7cf53 1 = .ok (.iload_n 1, 1) := by decide +kernel
theorem dJ9_max_7cf53_2 : decode cJ9_max_7cf53 2 = .ok (.if_icmp .lt 7, 3) := by decide +kernel
theorem dJ9_max_7cf53_5 : decode cJ9_max_7cf53 5 = .ok (.iload_n 0, 1) := by decide +kernel
theorem dJ9_max_7cf53_6 : decode cJ9_max_7cf53 6 = .ok (.goto 4, 3) := by decide +kernel
theorem dJ9_max_7cf53_9 : decode cJ9_max_7cf53 9 = .ok (.iload_n 1, 1) := by decide +kernel
theorem dJ9_max_7cf53_10 : decode cJ9_max_7cf53 10 = .ok (.ireturn, 1) := by decide +kernel
theorem dJ9_max_f86c9_0 : decode cJ9_max_f86c9 0 = .ok (.lload_n 0, 1) := by decide +kernel
theorem dJ9_max_f86c9_1 : decode cJ9_max_f86c9 1 = .ok (.lload_n 2, 1) := by decide +kernel
theorem dJ9_max_f86c9_2 : decode cJ9_max_f86c9 2 = .ok (.lcmp, 1) := by decide +kernel
theorem dJ9_max_f86c9_3 : decode cJ9_max_f86c9 3 = .ok (.ifCond .lt 7, 3) := by decide +kernel
theorem dJ9_max_f86c9_6 : decode cJ9_max_f86c9 6 = .ok (.lload_n 0, 1) := by decide +kernel
theorem dJ9_max_f86c9_7 : decode cJ9_max_f86c9 7 = .ok (.goto 4, 3) := by decide +kernel
theorem dJ9_max_f86c9_10 : decode cJ9_max_f86c9 10 = .ok (.lload_n 2, 1) := by decide +kernel
theorem dJ9_max_f86c9_11 : decode cJ9_max_f86c9 11 = .ok (.lreturn, 1) := by decide +kernel
theorem dJ9_min_7cf53_0 : decode cJ9_min_7cf53 0 = .ok (.iload_n 0, 1) := by decide +kernel
theorem dJ9_min_7cf53_1 : decode cJ9_min_7cf53 1 = .ok (.iload_n 1, 1) := by decide +kernel
theorem dJ9_min_7cf53_2 : decode cJ9_min_7cf53 2 = .ok (.if_icmp .gt 7, 3) := by decide +kernel
theorem dJ9_min_7cf53_5 : decode cJ9_min_7cf53 5 = .ok (.iload_n 0, 1) := by decide +kernel
theorem dJ9_min_7cf53_6 : decode cJ9_min_7cf53 6 = .ok (.goto 4, 3) := by decide +kernel
theorem dJ9_min_7cf53_9 : decode cJ9_min_7cf53 9 = .ok (.iload_n 1, 1) := by decide +kernel
theorem dJ9_min_7cf53_10 : decode cJ9_min_7cf53 10 = .ok (.ireturn, 1) := by decide +kernel
theorem dJ9_min_f86c9_0 : decode cJ9_min_f86c9 0 = .ok (.lload_n 0, 1) := by decide +kernel
theorem dJ9_min_f86c9_1 : decode cJ9_min_f86c9 1 = .ok (.lload_n 2, 1) := by decide +kernel
theorem dJ9_min_f86c9_2 : decode cJ9_min_f86c9 2 = .ok (.lcmp, 1) := by decide +kernel
theorem dJ9_min_f86c9_3 : decode cJ9_min_f86c9 3 = .ok (.ifCond .gt 7, 3) := by decide +kernel
theorem dJ9_min_f86c9_6 : decode cJ9_min_f86c9 6 = .ok (.lload_n 0, 1) := by decide +kernel
theorem dJ9_min_f86c9_7 : decode cJ9_min_f86c9 7 = .ok (.goto 4, 3) := by decide +kernel
theorem dJ9_min_f86c9_10 : decode cJ9_min_f86c9 10 = .ok (.lload_n 2, 1) := by decide +kernel
theorem dJ9_min_f86c9_11 : decode cJ9_min_f86c9 11 = .ok (.lreturn, 1) := by decide +kernel
theorem dJ0_length_8abf5_0 : decode cJ0_length_8abf5 0 = .ok (.aload_n 0, 1) := by decide +kernel
theorem dJ0_length_8abf5_1 : decode cJ0_length_8abf5 1 = .ok (.getfield 9, 3) := by decide +kernel
theorem dJ0_length_8abf5_4 : decode cJ0_length_8abf5 4 = .ok (.arraylength, 1) := by decide +kernel
theorem dJ0_length_8abf5_5 : decode cJ0_length_8abf5 5 = .ok (.aload_n 0, 1) := by decide +kernel
theorem dJ0_length_8abf5_6 : decode cJ0_length_8abf5 6 = .ok (.invokevirtual 335, 3) := by decide +kernel
theorem dJ0_length_8abf5_9 : decode cJ0_length_8abf5 9 = .ok (.ishr, 1) := by decide +kernel
theorem dJ0_length_8abf5_10 : decode cJ0_length_8abf5 10 = .ok (.ireturn, 1) := by decide +kernel
theorem dJ0_charAt_5068e_0 : decode cJ0_charAt_5068e 0 = .ok (.aload_n 0, 1) := by decide +kernel
theorem dJ0_charAt_5068e_1 : decode cJ0_charAt_5068e 1 = .ok (.invokevirtual 492, 3) := by decide +kernel
theorem dJ0_charAt_5068e_4 : decode cJ0_charAt_5068e 4 = .ok (.ifCond .eq 12, 3) := by decide +kernel
theorem dJ0_charAt_5068e_7 : decode cJ0_charAt_5068e 7 = .ok (.aload_n 0, 1) := by decide +kernel
theorem dJ0_charAt_5068e_8 : decode cJ0_charAt_5068e 8 = .ok (.getfield 9, 3) := by decide +kernel
theorem dJ0_charAt_5068e_11 : decode cJ0_charAt_5068e 11 = .ok (.iload_n 1, 1) := by decide +kernel
theorem dJ0_charAt_5068e_12 : decode cJ0_charAt_5068e 12 = .ok (.invokestatic 495, 3) := by decide +kernel
theorem dJ0_charAt_5068e_15 : decode cJ0_charAt_5068e 15 = .ok (.ireturn, 1) := by decide +kernel
theorem dJ0_charAt_5068e_16 : decode cJ0_charAt_5068e 16 = .ok (.aload_n 0, 1) := by decide +kernel
theorem dJ0_charAt_5068e_17 : decode cJ0_charAt_5068e 17 = .ok (.getfield 9, 3) := by decide +kernel
theorem dJ0_charAt_5068e_20 : decode cJ0_charAt_5068e 20 = .ok (.iload_n 1, 1) := by decide +kernel
theorem dJ0_charAt_5068e_21 : decode cJ0_charAt_5068e 21 = .ok (.invokestatic 498, 3) := by decide +kernel
theorem dJ0_charAt_5068e_24 : decode cJ0_charAt_5068e 24 = .ok (.ireturn, 1) := by decide +kernel
theorem dJ0_coder_7d493_0 : decode cJ0_coder_7d493 0 = .ok (.getstatic 38, 3) := by decide +kernel
theorem dJ0_coder_7d493_3 : decode cJ0_coder_7d493 3 = .ok (.ifCond .eq 10, 3) := by decide +kernel
theorem dJ0_coder_7d493_6 : decode cJ0_coder_7d493 6 = .ok (.aload_n 0, 1) := by decide +kernel
theorem dJ0_coder_7d493_7 : decode cJ0_coder_7d493 7 = .ok (.getfield 15, 3) := by decide +kernel
theorem dJ0_coder_7d493_10 : decode cJ0_coder_7d493 10 = .ok (.goto 4, 3) := by decide +kernel
theorem dJ0_coder_7d493_13 : decode cJ0_coder_7d493 13 = .ok (.iconst 1, 1) := by decide +kernel
theorem dJ0_coder_7d493_14 : decode cJ0_coder_7d493 14 = .ok (.ireturn, 1) := by decide +kernel
theorem dJ0_isLatin1_aae02_0 : decode cJ0_isLatin1_aae02 0 = .ok (.getstatic 38, 3) := by decide +kernel
theorem dJ0_isLatin1_aae02_3 : decode cJ0_isLatin1_aae02 3 = .ok (.ifCond .eq 14, 3) := by decide +kernel
theorem dJ0_isLatin1_aae02_6 : decode cJ0_isLatin1_aae02 6 = .ok (.aload_n 0, 1) := by decide +kernel
theorem dJ0_isLatin1_aae02_7 : decode cJ0_isLatin1_aae02 7 = .ok (.getfield 15, 3) := by decide +kernel
theorem dJ0_isLatin1_aae02_10 : decode cJ0_isLatin1_aae02 10 = .ok (.ifCond .ne 7, 3) := by decide +kernel
theorem dJ0_isLatin1_aae02_13 : decode cJ0_isLatin1_aae02 13 = .ok (.iconst 1, 1) := by decide +kernel
theorem dJ0_isLatin1_aae02_14 : decode cJ0_isLatin1_aae02 14 = .ok (.goto 4, 3) := by decide +kernel
theorem dJ0_isLatin1_aae02_17 : decode cJ0_isLatin1_aae02 17 = .ok (.iconst 0, 1) := by decide +kernel
theorem dJ0_isLatin1_aae02_18 : decode cJ0_isLatin1_aae02 18 = .ok (.ireturn, 1) := by decide +kernel
theorem dJ0_checkIndex_df160_0 : decode cJ0_checkIndex_df160 0 = .ok (.iload_n 0, 1) := by decide +kernel
theorem dJ0_checkIndex_df160_1 : decode cJ0_checkIndex_df160 1 = .ok (.iload_n 1, 1) := by decide +kernel
theorem dJ0_checkIndex_df160_2 : decode cJ0_checkIndex_df160 2 = .ok (.getstatic 1053, 3) := by decide +kernel
theorem dJ0_checkIndex_df160_5 : decode cJ0_checkIndex_df160 5 = .ok (.invokestatic 1059, 3) := by decide +kernel
theorem dJ0_checkIndex_df160_8 : decode cJ0_checkIndex_df160 8 = .ok (.pop, 1) := by decide +kernel
theorem dJ0_checkIndex_df160_9 : decode cJ0_checkIndex_df160 9 = .ok (.return_, 1) := by decide +kernel
theorem dJ1_charAt_3b067_0 : decode cJ1_charAt_3b067 0 = .ok (.iload_n 1, 1) := by decide +kernel
theorem dJ1_charAt_3b067_1 : decode cJ1_charAt_3b067 1 = .ok (.aload_n 0, 1) := by decide +kernel
theorem dJ1_charAt_3b067_2 : decode cJ1_charAt_3b067 2 = .ok (.arraylength, 1) := by decide +kernel
theorem dJ1_charAt_3b067_3 : decode cJ1_charAt_3b067 3 = .ok (.invokestatic 9, 3) := by decide +kernel
theorem dJ1_charAt_3b067_6 : decode cJ1_charAt_3b067 6 = .ok (.aload_n 0, 1) := by decide +kernel
theorem dJ1_charAt_3b067_7 : decode cJ1_charAt_3b067 7 = .ok (.iload_n 1, 1) := by decide +kernel
theorem dJ1_charAt_3b067_8 : decode cJ1_charAt_3b067 8 = .ok (.baload, 1) := by decide +kernel
theorem dJ1_charAt_3b067_9 : decode cJ1_charAt_3b067 9 = .ok (.sipush 255, 3) := by decide +kernel
theorem dJ1_charAt_3b067_12 : decode cJ1_charAt_3b067 12 = .ok (.iand, 1) := by decide +kernel
theorem dJ1_charAt_3b067_13 : decode cJ1_charAt_3b067 13 = .ok (.i2c, 1) := by decide +kernel
theorem dJ1_charAt_3b067_14 : decode cJ1_charAt_3b067 14 = .ok (.ireturn, 1) := by decide +kernel
theorem dJ2_getChar_3b067_0 : decode cJ2_getChar_3b067 0 = .ok (.getstatic 44, 3) := by decide +kernel
theorem dJ2_getChar_3b067_3 : decode cJ2_getChar_3b067 3 = .ok (.ifCond .ne 25, 3) := by decide +kernel
theorem dJ2_getChar_3b067_6 : decode cJ2_getChar_3b067 6 = .ok (.iload_n 1, 1) := by decide +kernel
theorem dJ2_getChar_3b067_7 : decode cJ2_getChar_3b067 7 = .ok (.ifCond .lt 11, 3) := by decide +kernel
theorem dJ2_getChar_3b067_10 : decode cJ2_getChar_3b067 10 = .ok (.iload_n 1, 1) := by decide +kernel
theorem dJ2_getChar_3b067_11 : decode cJ2_getChar_3b067 11 = .ok (.aload_n 0, 1) := by decide +kernel
theorem dJ2_getChar_3b067_12 : decode cJ2_getChar_3b067 12 = .ok (.invokestatic 48, 3) := by decide +kernel
theorem dJ2_getChar_3b067_15 : decode cJ2_getChar_3b067 15 = .ok (.if_icmp .lt 13, 3) := by decide +kernel
theorem dJ2_getChar_3b067_18 : decode cJ2_getChar_3b067 18 = .ok (.new 52, 3) := by decide +kernel
theorem dJ2_getChar_3b067_21 : decode cJ2_getChar_3b067 21 = .ok (.dup, 1) := by decide +kernel
theorem dJ2_getChar_3b067_22 : decode cJ2_getChar_3b067 22 = .ok (.ldc 54, 2) := by decide +kernel
theorem dJ2_getChar_3b067_24 : decode cJ2_getChar_3b067 24 = .ok (.invokespecial 56, 3) := by decide +kernel
theorem dJ2_getChar_3b067_27 : decode cJ2_getChar_3b067 27 = .ok (.athrow, 1) := by decide +kernel
theorem dJ2_getChar_3b067_28 : decode cJ2_getChar_3b067 28 = .ok (.iload_n 1, 1) := by decide +kernel
theorem dJ2_getChar_3b067_29 : decode cJ2_getChar_3b067 29 = .ok (.iconst 1, 1) := by decide +kernel
theorem dJ2_getChar_3b067_30 : decode cJ2_getChar_3b067 30 = .ok (.ishl, 1) := by decide +kernel
theorem dJ2_getChar_3b067_31 : decode cJ2_getChar_3b067 31 = .ok (.istore_n 1, 1) := by decide +kernel
theorem dJ2_getChar_3b067_32 : decode cJ2_getChar_3b067 32 = .ok (.aload_n 0, 1) := by decide +kernel
theorem dJ2_getChar_3b067_33 : decode cJ2_getChar_3b067 33 = .ok (.iload_n 1, 1) := by decide +kernel
theorem dJ2_getChar_3b067_34 : decode cJ2_getChar_3b067 34 = .ok (.iinc 1 1, 3) := by decide +kernel
theorem dJ2_getChar_3b067_37 : decode cJ2_getChar_3b067 37 = .ok (.baload, 1) := by decide +kernel
theorem dJ2_getChar_3b067_38 : decode cJ2_getChar_3b067 38 = .ok (.sipush 255, 3) := by decide +kernel
theorem dJ2_getChar_3b067_41 : decode cJ2_getChar_3b067 41 = .ok (.iand, 1) := by decide +kernel
theorem dJ2_getChar_3b067_42 : decode cJ2_getChar_3b067 42 = .ok (.getstatic 59, 3) := by decide +kernel
theorem dJ2_getChar_3b067_45 : decode cJ2_getChar_3b067 45 = .ok (.ishl, 1) := by decide +kernel
theorem dJ2_getChar_3b067_46 : decode cJ2_getChar_3b067 46 = .ok (.aload_n 0, 1) := by decide +kernel
theorem dJ2_getChar_3b067_47 : decode cJ2_getChar_3b067 47 = .ok (.iload_n 1, 1) := by decide +kernel
theorem dJ2_getChar_3b067_48 : decode cJ2_getChar_3b067 48 = .ok (.baload, 1) := by decide +kernel
theorem dJ2_getChar_3b067_49 : decode cJ2_getChar_3b067 49 = .ok (.sipush 255, 3) := by decide +kernel
theorem dJ2_getChar_3b067_52 : decode cJ2_getChar_3b067 52 = .ok (.iand, 1) := by decide +kernel
theorem dJ2_getChar_3b067_53 : decode cJ2_getChar_3b067 53 = .ok (.getstatic 63, 3) := by decide +kernel
theorem dJ2_getChar_3b067_56 : decode cJ2_getChar_3b067 56 = .ok (.ishl, 1) := by decide +kernel
theorem dJ2_getChar_3b067_57 : decode cJ2_getChar_3b067 57 = .ok (.ior, 1) := by decide +kernel
theorem dJ2_getChar_3b067_58 : decode cJ2_getChar_3b067 58 = .ok (.i2c, 1) := by decide +kernel
theorem dJ2_getChar_3b067_59 : decode cJ2_getChar_3b067 59 = .ok (.ireturn, 1) := by decide +kernel
theorem dJ2_length_9d52b_0 : decode cJ2_length_9d52b 0 = .ok (.aload_n 0, 1) := by decide +kernel
theorem dJ2_length_9d52b_1 : decode cJ2_length_9d52b 1 = .ok (.arraylength, 1) := by decide +kernel
theorem dJ2_length_9d52b_2 : decode cJ2_length_9d52b 2 = .ok (.iconst 1, 1) := by decide +kernel
theorem dJ2_length_9d52b_3 : decode cJ2_length_9d52b 3 = .ok (.ishr, 1) := by decide +kernel
theorem dJ2_length_9d52b_4 : decode cJ2_length_9d52b 4 = .ok (.ireturn, 1) := by decide +kernel
theorem dJ2_charAt_3b067_0 : decode cJ2_charAt_3b067 0 = .ok (.iload_n 1, 1) := by decide +kernel
theorem dJ2_charAt_3b067_1 : decode cJ2_charAt_3b067 1 = .ok (.aload_n 0, 1) := by decide +kernel
theorem dJ2_charAt_3b067_2 : decode cJ2_charAt_3b067 2 = .ok (.invokestatic 67, 3) := by decide +kernel
theorem dJ2_charAt_3b067_5 : decode cJ2_charAt_3b067 5 = .ok (.aload_n 0, 1) := by decide +kernel
theorem dJ2_charAt_3b067_6 : decode cJ2_charAt_3b067 6 = .ok (.iload_n 1, 1) := by decide +kernel
theorem dJ2_charAt_3b067_7 : decode cJ2_charAt_3b067 7 = .ok (.invokestatic 71, 3) := by decide +kernel
theorem dJ2_charAt_3b067_10 : decode cJ2_charAt_3b067 10 = .ok (.ireturn, 1) := by decide +kernel
theorem dJ2_checkIndex_2214a_0 : decode cJ2_checkIndex_2214a 0 = .ok (.iload_n 0, 1) := by decide +kernel
theorem dJ2_checkIndex_2214a_1 : decode cJ2_checkIndex_2214a 1 = .ok (.aload_n 1, 1) := by decide +kernel
theorem dJ2_checkIndex_2214a_2 : decode cJ2_checkIndex_2214a 2 = .ok (.invokestatic 48, 3) := by decide +kernel
theorem dJ2_checkIndex_2214a_5 : decode cJ2_checkIndex_2214a 5 = .ok (.invokestatic 414, 3) := by decide +kernel
theorem dJ2_checkIndex_2214a_8 : decode cJ2_checkIndex_2214a 8 = .ok (.return_, 1) := by decide +kernel
theorem dJ7_fill_d0a16_0 : decode cJ7_fill_d0a16 0 = .ok (.iconst 0, 1) := by decide +kernel
theorem dJ7_fill_d0a16_1 : decode cJ7_fill_d0a16 1 = .ok (.istore_n 3, 1) := by decide +kernel
theorem dJ7_fill_d0a16_2 : decode cJ7_fill_d0a16 2 = .ok (.aload_n 0, 1) := by decide +kernel
theorem dJ7_fill_d0a16_3 : decode cJ7_fill_d0a16 3 = .ok (.arraylength, 1) := by decide +kernel
theorem dJ7_fill_d0a16_4 : decode cJ7_fill_d0a16 4 = .ok (.istore 4, 2) := by decide +kernel
theorem dJ7_fill_d0a16_6 : decode cJ7_fill_d0a16 6 = .ok (.iload_n 3, 1) := by decide +kernel
theorem dJ7_fill_d0a16_7 : decode cJ7_fill_d0a16 7 = .ok (.iload 4, 2) := by decide +kernel
theorem dJ7_fill_d0a16_9 : decode cJ7_fill_d0a16 9 = .ok (.if_icmp .ge 13, 3) := by decide +kernel
theorem dJ7_fill_d0a16_12 : decode cJ7_fill_d0a16 12 = .ok (.aload_n 0, 1) := by decide +kernel
theorem dJ7_fill_d0a16_13 : decode cJ7_fill_d0a16 13 = .ok (.iload_n 3, 1) := by decide +kernel
theorem dJ7_fill_d0a16_14 : decode cJ7_fill_d0a16 14 = .ok (.lload_n 1, 1) := by decide +kernel
theorem dJ7_fill_d0a16_15 : decode cJ7_fill_d0a16 15 = .ok (.lastore, 1) := by decide +kernel
theorem dJ7_fill_d0a16_16 : decode cJ7_fill_d0a16 16 = .ok (.iinc 3 1, 3) := by decide +kernel
theorem dJ7_fill_d0a16_19 : decode cJ7_fill_d0a16 19 = .ok (.goto (-13), 3) := by decide +kernel
theorem dJ7_fill_d0a16_22 : decode cJ7_fill_d0a16 22 = .ok (.return_, 1) := by decide +kernel
theorem dJ7_copyOf_59c91_0 : decode cJ7_copyOf_59c91 0 = .ok (.iload_n 1, 1) := by decide +kernel
theorem dJ7_copyOf_59c91_1 : decode cJ7_copyOf_59c91 1 = .ok (.aload_n 0, 1) := by decide +kernel
theorem dJ7_copyOf_59c91_2 : decode cJ7_copyOf_59c91 2 = .ok (.arraylength, 1) := by decide +kernel
theorem dJ7_copyOf_59c91_3 : decode cJ7_copyOf_59c91 3 = .ok (.if_icmp .ne 11, 3) := by decide +kernel
theorem dJ7_copyOf_59c91_6 : decode cJ7_copyOf_59c91 6 = .ok (.aload_n 0, 1) := by decide +kernel
theorem dJ7_copyOf_59c91_7 : decode cJ7_copyOf_59c91 7 = .ok (.invokevirtual 316, 3) := by decide +kernel
theorem dJ7_copyOf_59c91_10 : decode cJ7_copyOf_59c91 10 = .ok (.checkcast 317, 3) := by decide +kernel
theorem dJ7_copyOf_59c91_13 : decode cJ7_copyOf_59c91 13 = .ok (.areturn, 1) := by decide +kernel
theorem dJ7_copyOf_59c91_14 : decode cJ7_copyOf_59c91 14 = .ok (.iload_n 1, 1) := by decide +kernel
theorem dJ7_copyOf_59c91_15 : decode cJ7_copyOf_59c91 15 = .ok (.newarray .int, 2) := by decide +kernel
theorem dJ7_copyOf_59c91_17 : decode cJ7_copyOf_59c91 17 = .ok (.astore_n 2, 1) := by decide +kernel
theorem dJ7_copyOf_59c91_18 : decode cJ7_copyOf_59c91 18 = .ok (.aload_n 0, 1) := by decide +kernel
theorem dJ7_copyOf_59c91_19 : decode cJ7_copyOf_59c91 19 = .ok (.iconst 0, 1) := by decide +kernel
theorem dJ7_copyOf_59c91_20 : decode cJ7_copyOf_59c91 20 = .ok (.aload_n 2, 1) := by decide +kernel
theorem dJ7_copyOf_59c91_21 : decode cJ7_copyOf_59c91 21 = .ok (.iconst 0, 1) := by decide +kernel
theorem dJ7_copyOf_59c91_22 : decode cJ7_copyOf_59c91 22 = .ok (.aload_n 0, 1) := by decide +kernel
theorem dJ7_copyOf_59c91_23 : decode cJ7_copyOf_59c91 23 = .ok (.arraylength, 1) := by decide +kernel
theorem dJ7_copyOf_59c91_24 : decode cJ7_copyOf_59c91 24 = .ok (.iload_n 1, 1) := by decide +kernel
theorem dJ7_copyOf_59c91_25 : decode cJ7_copyOf_59c91 25 = .ok (.invokestatic 304, 3) := by decide +kernel
theorem dJ7_copyOf_59c91_28 : decode cJ7_copyOf_59c91 28 = .ok (.invokestatic 150, 3) := by decide +kernel
theorem dJ7_copyOf_59c91_31 : decode cJ7_copyOf_59c91 31 = .ok (.aload_n 2, 1) := by decide +kernel
theorem dJ7_copyOf_59c91_32 : decode cJ7_copyOf_59c91 32 = .ok (.areturn, 1) := by decide +kernel
theorem dJ3_checkIndex_8e157_0 : decode cJ3_checkIndex_8e157 0 = .ok (.iload_n 0, 1) := by decide +kernel
theorem dJ3_checkIndex_8e157_1 : decode cJ3_checkIndex_8e157 1 = .ok (.ifCond .lt 8, 3) := by decide +kernel
theorem dJ3_checkIndex_8e157_4 : decode cJ3_checkIndex_8e157 4 = .ok (.iload_n 0, 1) := by decide +kernel
theorem dJ3_checkIndex_8e157_5 : decode cJ3_checkIndex_8e157 5 = .ok (.iload_n 1, 1) := by decide +kernel
theorem dJ3_checkIndex_8e157_6 : decode cJ3_checkIndex_8e157 6 = .ok (.if_icmp .lt 10, 3) := by decide +kernel
theorem dJ3_checkIndex_8e157_9 : decode cJ3_checkIndex_8e157 9 = .ok (.aload_n 2, 1) := by decide +kernel
theorem dJ3_checkIndex_8e157_10 : decode cJ3_checkIndex_8e157 10 = .ok (.iload_n 0, 1) := by decide +kernel
theorem dJ3_checkIndex_8e157_11 : decode cJ3_checkIndex_8e157 11 = .ok (.iload_n 1, 1) := by decide +kernel
theorem dJ3_checkIndex_8e157_12 : decode cJ3_checkIndex_8e157 12 = .ok (.invokestatic 95, 3) := by decide +kernel
theorem dJ3_checkIndex_8e157_15 : decode cJ3_checkIndex_8e157 15 = .ok (.athrow, 1) := by decide +kernel
theorem dJ3_checkIndex_8e157_16 : decode cJ3_checkIndex_8e157 16 = .ok (.iload_n 0, 1) := by decide +kernel
theorem dJ3_checkIndex_8e157_17 : decode cJ3_checkIndex_8e157 17 = .ok (.ireturn, 1) := by decide +kernel
end
section
theorem dL_cell_0 : decode cL_cell 0 = .ok (.iload_n 1, 1) := by decide +kernel
theorem dL_cell_1 : decode cL_cell 1 = .ok (.aload_n 0, 1) := by decide +kernel
theorem dL_cell_2 : decode cL_cell 2 = .ok (.arraylength, 1) := by decide +kernel
theorem dL_cell_3 : decode cL_cell 3 = .ok (.if_icmp .ge 9, 3) := by decide +kernel
theorem dL_cell_6 : decode cL_cell 6 = .ok (.aload_n 0, 1) := by decide +kernel
theorem dL_cell_7 : decode cL_cell 7 = .ok (.iload_n 1, 1) := by decide +kernel
theorem dL_cell_8 : decode cL_cell 8 = .ok (.iaload, 1) := by decide +kernel
theorem dL_cell_9 : decode cL_cell 9 = .ok (.goto 4, 3) := by decide +kernel
theorem dL_cell_12 : decode cL_cell 12 = .ok (.iconst 0, 1) := by decide +kernel
theorem dL_cell_13 : decode cL_cell 13 = .ok (.ireturn, 1) := by decide +kernel
theorem dL_law_0 : decode cL_law 0 = .ok (.new 7, 3) := by decide +kernel
theorem dL_law_3 : decode cL_law 3 = .ok (.dup, 1) := by decide +kernel
theorem dL_law_4 : decode cL_law 4 = .ok (.aload_n 0, 1) := by decide +kernel
theorem dL_law_5 : decode cL_law 5 = .ok (.iconst 0, 1) := by decide +kernel
theorem dL_law_6 : decode cL_law 6 = .ok (.invokestatic 9, 3) := by decide +kernel
theorem dL_law_9 : decode cL_law 9 = .ok (.invokespecial 15, 3) := by decide +kernel
theorem dL_law_12 : decode cL_law 12 = .ok (.astore_n 1, 1) := by decide +kernel
theorem dL_law_13 : decode cL_law 13 = .ok (.new 18, 3) := by decide +kernel
theorem dL_law_16 : decode cL_law 16 = .ok (.dup, 1) := by decide +kernel
theorem dL_law_17 : decode cL_law 17 = .ok (.aload_n 0, 1) := by decide +kernel
theorem dL_law_18 : decode cL_law 18 = .ok (.iconst 0, 1) := by decide +kernel
theorem dL_law_19 : decode cL_law 19 = .ok (.invokestatic 9, 3) := by decide +kernel
theorem dL_law_22 : decode cL_law 22 = .ok (.invokespecial 20, 3) := by decide +kernel
theorem dL_law_25 : decode cL_law 25 = .ok (.astore_n 2, 1) := by decide +kernel
theorem dL_law_26 : decode cL_law 26 = .ok (.iconst 1, 1) := by decide +kernel
theorem dL_law_27 : decode cL_law 27 = .ok (.istore_n 3, 1) := by decide +kernel
theorem dL_law_28 : decode cL_law 28 = .ok (.iload_n 3, 1) := by decide +kernel
theorem dL_law_29 : decode cL_law 29 = .ok (.aload_n 0, 1) := by decide +kernel
theorem dL_law_30 : decode cL_law 30 = .ok (.arraylength, 1) := by decide +kernel
theorem dL_law_31 : decode cL_law 31 = .ok (.bipush 6, 2) := by decide +kernel
theorem dL_law_33 : decode cL_law 33 = .ok (.isub, 1) := by decide +kernel
theorem dL_law_34 : decode cL_law 34 = .ok (.if_icmp .gt 1483, 3) := by decide +kernel
theorem dL_law_37 : decode cL_law 37 = .ok (.aload_n 0, 1) := by decide +kernel
theorem dL_law_38 : decode cL_law 38 = .ok (.iload_n 3, 1) := by decide +kernel
theorem dL_law_39 : decode cL_law 39 = .ok (.iaload, 1) := by decide +kernel
theorem dL_law_40 : decode cL_law 40 = .ok (.bipush 63, 2) := by decide +kernel
theorem dL_law_42 : decode cL_law 42 = .ok (.iand, 1) := by decide +kernel
theorem dL_law_43 : decode cL_law 43 = .ok (.tableswitch 1468 0 37 #[165, 218, 241, 304, 337, 380, 413, 436, 450, 484, 538, 571, 634, 647, 690, 723, 777, 801, 825, 838, 872, 895, 929, 942, 976, 989, 1022, 1055, 1088, 1111, 1144, 1187, 1210, 1233, 1276, 1319, 1382, 1435], 165) := by decide +kernel
theorem dL_law_208 : decode cL_law 208 = .ok (.aload_n 1, 1) := by decide +kernel
theorem dL_law_209 : decode cL_law 209 = .ok (.aload_n 0, 1) := by decide +kernel
theorem dL_law_210 : decode cL_law 210 = .ok (.iload_n 3, 1) := by decide +kernel
theorem dL_law_211 : decode cL_law 211 = .ok (.iconst 1, 1) := by decide +kernel
theorem dL_law_212 : decode cL_law 212 = .ok (.iadd, 1) := by decide +kernel
theorem dL_law_213 : decode cL_law 213 = .ok (.iaload, 1) := by decide +kernel
theorem dL_law_214 : decode cL_law 214 = .ok (.aload_n 0, 1) := by decide +kernel
theorem dL_law_215 : decode cL_law 215 = .ok (.iload_n 3, 1) := by decide +kernel
theorem dL_law_216 : decode cL_law 216 = .ok (.iconst 2, 1) := by decide +kernel
theorem dL_law_217 : decode cL_law 217 = .ok (.iadd, 1) := by decide +kernel
theorem dL_law_218 : decode cL_law 218 = .ok (.iaload, 1) := by decide +kernel
theorem dL_law_219 : decode cL_law 219 = .ok (.aload_n 0, 1) := by decide +kernel
theorem dL_law_220 : decode cL_law 220 = .ok (.iload_n 3, 1) := by decide +kernel
theorem dL_law_221 : decode cL_law 221 = .ok (.iconst 3, 1) := by decide +kernel
theorem dL_law_222 : decode cL_law 222 = .ok (.iadd, 1) := by decide +kernel
theorem dL_law_223 : decode cL_law 223 = .ok (.iaload, 1) := by decide +kernel
theorem dL_law_224 : decode cL_law 224 = .ok (.aload_n 0, 1) := by decide +kernel
theorem dL_law_225 : decode cL_law 225 = .ok (.iload_n 3, 1) := by decide +kernel
theorem dL_law_226 : decode cL_law 226 = .ok (.iconst 4, 1) := by decide +kernel
theorem dL_law_227 : decode cL_law 227 = .ok (.iadd, 1) := by decide +kernel
theorem dL_law_228 : decode cL_law 228 = .ok (.iaload, 1) := by decide +kernel
theorem dL_law_229 : decode cL_law 229 = .ok (.invokevirtual 21, 3) := by decide +kernel
theorem dL_law_232 : decode cL_law 232 = .ok (.aload_n 2, 1) := by decide +kernel
theorem dL_law_233 : decode cL_law 233 = .ok (.aload_n 0, 1) := by decide +kernel
theorem dL_law_234 : decode cL_law 234 = .ok (.iload_n 3, 1) := by decide +kernel
theorem dL_law_235 : decode cL_law 235 = .ok (.iconst 1, 1) := by decide +kernel
theorem dL_law_236 : decode cL_law 236 = .ok (.iadd, 1) := by decide +kernel
theorem dL_law_237 : decode cL_law 237 = .ok (.iaload, 1) := by decide +kernel
theorem dL_law_238 : decode cL_law 238 = .ok (.aload_n 0, 1) := by decide +kernel
theorem dL_law_239 : decode cL_law 239 = .ok (.iload_n 3, 1) := by decide +kernel
theorem dL_law_240 : decode cL_law 240 = .ok (.iconst 2, 1) := by decide +kernel
theorem dL_law_241 : decode cL_law 241 = .ok (.iadd, 1) := by decide +kernel
theorem dL_law_242 : decode cL_law 242 = .ok (.iaload, 1) := by decide +kernel
theorem dL_law_243 : decode cL_law 243 = .ok (.aload_n 0, 1) := by decide +kernel
theorem dL_law_244 : decode cL_law 244 = .ok (.iload_n 3, 1) := by decide +kernel
theorem dL_law_245 : decode cL_law 245 = .ok (.iconst 3, 1) := by decide +kernel
theorem dL_law_246 : decode cL_law 246 = .ok (.iadd, 1) := by decide +kernel
theorem dL_law_247 : decode cL_law 247 = .ok (.iaload, 1) := by decide +kernel
theorem dL_law_248 : decode cL_law 248 = .ok (.aload_n 0, 1) := by decide +kernel
theorem dL_law_249 : decode cL_law 249 = .ok (.iload_n 3, 1) := by decide +kernel
theorem dL_law_250 : decode cL_law 250 = .ok (.iconst 4, 1) := by decide +kernel
theorem dL_law_251 : decode cL_law 251 = .ok (.iadd, 1) := by decide +kernel
theorem dL_law_252 : decode cL_law 252 = .ok (.iaload, 1) := by decide +kernel
theorem dL_law_253 : decode cL_law 253 = .ok (.invokevirtual 25, 3) := by decide +kernel
theorem dL_law_256 : decode cL_law 256 = .ok (.if_icmp .eq 1255, 3) := by decide +kernel
theorem dL_law_259 : decode cL_law 259 = .ok (.iconst 0, 1) := by decide +kernel
theorem dL_law_260 : decode cL_law 260 = .ok (.ireturn, 1) := by decide +kernel
theorem dL_law_261 : decode cL_law 261 = .ok (.aload_n 1, 1) := by decide +kernel
theorem dL_law_262 : decode cL_law 262 = .ok (.aload_n 0, 1) := by decide +kernel
theorem dL_law_263 : decode cL_law 263 = .ok (.iload_n 3, 1) := by decide +kernel
theorem dL_law_264 : decode cL_law 264 = .ok (.iconst 1, 1) := by decide +kernel
theorem dL_law_265 : decode cL_law 265 = .ok (.iadd, 1) := by decide +kernel
theorem dL_law_266 : decode cL_law 266 = .ok (.iaload, 1) := by decide +kernel
theorem dL_law_267 : decode cL_law 267 = .ok (.invokevirtual 26, 3) := by decide +kernel
theorem dL_law_270 : decode cL_law 270 = .ok (.aload_n 2, 1) := by decide +kernel
theorem dL_law_271 : decode cL_law 271 = .ok (.aload_n 0, 1) := by decide +kernel
theorem dL_law_272 : decode cL_law 272 = .ok (.iload_n 3, 1) := by decide +kernel
theorem dL_law_273 : decode cL_law 273 = .ok (.iconst 1, 1) := by decide +kernel
theorem dL_law_274 : decode cL_law 274 = .ok (.iadd, 1) := by decide +kernel
theorem dL_law_275 : decode cL_law 275 = .ok (.iaload, 1) := by decide +kernel
theorem dL_law_276 : decode cL_law 276 = .ok (.invokevirtual 30, 3) := by decide +kernel
theorem dL_law_279 : decode cL_law 279 = .ok (.if_icmp .eq 1232, 3) := by decide +kernel
theorem dL_law_282 : decode cL_law 282 = .ok (.iconst 0, 1) := by decide +kernel
theorem dL_law_283 : decode cL_law 283 = .ok (.ireturn, 1) := by decide +kernel
theorem dL_law_284 : decode cL_law 284 = .ok (.aload_n 1, 1) := by decide +kernel
theorem dL_law_285 : decode cL_law 285 = .ok (.aload_n 0, 1) := by decide +kernel
theorem dL_law_286 : decode cL_law 286 = .ok (.iload_n 3, 1) := by decide +kernel
theorem dL_law_287 : decode cL_law 287 = .ok (.iconst 1, 1) := by decide +kernel
theorem dL_law_288 : decode cL_law 288 = .ok (.iadd, 1) := by decide +kernel
theorem dL_law_289 : decode cL_law 289 = .ok (.iaload, 1) := by decide +kernel
theorem dL_law_290 : decode cL_law 290 = .ok (.aload_n 0, 1) := by decide +kernel
theorem dL_law_291 : decode cL_law 291 = .ok (.iload_n 3, 1) := by decide +kernel
theorem dL_law_292 : decode cL_law 292 = .ok (.iconst 2, 1) := by decide +kernel
theorem dL_law_293 : decode cL_law 293 = .ok (.iadd, 1) := by decide +kernel
theorem dL_law_294 : decode cL_law 294 = .ok (.iaload, 1) := by decide +kernel
theorem dL_law_295 : decode cL_law 295 = .ok (.aload_n 0, 1) := by decide +kernel
theorem dL_law_296 : decode cL_law 296 = .ok (.iload_n 3, 1) := by decide +kernel
theorem dL_law_297 : decode cL_law 297 = .ok (.iconst 3, 1) := by decide +kernel
theorem dL_law_298 : decode cL_law 298 = .ok (.iadd, 1) := by decide +kernel
theorem dL_law_299 : decode cL_law 299 = .ok (.iaload, 1) := by decide +kernel
theorem dL_law_300 : decode cL_law 300 = .ok (.aload_n 0, 1) := by decide +kernel
theorem dL_law_301 : decode cL_law 301 = .ok (.iload_n 3, 1) := by decide +kernel
theorem dL_law_302 : decode cL_law 302 = .ok (.iconst 4, 1) := by decide +kernel
theorem dL_law_303 : decode cL_law 303 = .ok (.iadd, 1) := by decide +kernel
theorem dL_law_304 : decode cL_law 304 = .ok (.iaload, 1) := by decide +kernel
theorem dL_law_305 : decode cL_law 305 = .ok (.aload_n 0, 1) := by decide +kernel
theorem dL_law_306 : decode cL_law 306 = .ok (.iload_n 3, 1) := by decide +kernel
theorem dL_law_307 : decode cL_law 307 = .ok (.iconst 5, 1) := by decide +kernel
theorem dL_law_308 : decode cL_law 308 = .ok (.iadd, 1) := by decide +kernel
theorem dL_law_309 : decode cL_law 309 = .ok (.iaload, 1) := by decide +kernel
theorem dL_law_310 : decode cL_law 310 = .ok (.invokevirtual 31, 3) := by decide +kernel
theorem dL_law_313 : decode cL_law 313 = .ok (.aload_n 2, 1) := by decide +kernel
theorem dL_law_314 : decode cL_law 314 = .ok (.aload_n 0, 1) := by decide +kernel
theorem dL_law_315 : decode cL_law 315 = .ok (.iload_n 3, 1) := by decide +kernel
theorem dL_law_316 : decode cL_law 316 = .ok (.iconst 1, 1) := by decide +kernel
theorem dL_law_317 : decode cL_law 317 = .ok (.iadd, 1) := by decide +kernel
theorem dL_law_318 : decode cL_law 318 = .ok (.iaload, 1) := by decide +kernel
theorem dL_law_319 : decode cL_law 319 = .ok (.aload_n 0, 1) := by decide +kernel
theorem dL_law_320 : decode cL_law 320 = .ok (.iload_n 3, 1) := by decide +kernel
theorem dL_law_321 : decode cL_law 321 = .ok (.iconst 2, 1) := by decide +kernel
theorem dL_law_322 : decode cL_law 322 = .ok (.iadd, 1) := by decide +kernel
theorem dL_law_323 : decode cL_law 323 = .ok (.iaload, 1) := by decide +kernel
theorem dL_law_324 : decode cL_law 324 = .ok (.aload_n 0, 1) := by decide +kernel
theorem dL_law_325 : decode cL_law 325 = .ok (.iload_n 3, 1) := by decide +kernel
theorem dL_law_326 : decode cL_law 326 = .ok (.iconst 3, 1) := by decide +kernel
theorem dL_law_327 : decode cL_law 327 = .ok (.iadd, 1) := by decide +kernel
theorem dL_law_328 : decode cL_law 328 = .ok (.iaload, 1) := by decide +kernel
theorem dL_law_329 : decode cL_law 329 = .ok (.aload_n 0, 1) := by decide +kernel
theorem dL_law_330 : decode cL_law 330 = .ok (.iload_n 3, 1) := by decide +kernel
theorem dL_law_331 : decode cL_law 331 = .ok (.iconst 4, 1) := by decide +kernel
theorem dL_law_332 : decode cL_law 332 = .ok (.iadd, 1) := by decide +kernel
theorem dL_law_333 : decode cL_law 333 = .ok (.iaload, 1) := by decide +kernel
theorem dL_law_334 : decode cL_law 334 = .ok (.aload_n 0, 1) := by decide +kernel
theorem dL_law_335 : decode cL_law 335 = .ok (.iload_n 3, 1) := by decide +kernel
theorem dL_law_336 : decode cL_law 336 = .ok (.iconst 5, 1) := by decide +kernel
theorem dL_law_337 : decode cL_law 337 = .ok (.iadd, 1) := by decide +kernel
theorem dL_law_338 : decode cL_law 338 = .ok (.iaload, 1) := by decide +kernel
theorem dL_law_339 : decode cL_law 339 = .ok (.invokevirtual 35, 3) := by decide +kernel
theorem dL_law_342 : decode cL_law 342 = .ok (.if_icmp .eq 1169, 3) := by decide +kernel
theorem dL_law_345 : decode cL_law 345 = .ok (.iconst 0, 1) := by decide +kernel
theorem dL_law_346 : decode cL_law 346 = .ok (.ireturn, 1) := by decide +kernel
theorem dL_law_347 : decode cL_law 347 = .ok (.aload_n 1, 1) := by decide +kernel
theorem dL_law_348 : decode cL_law 348 = .ok (.aload_n 0, 1) := by decide +kernel
theorem dL_law_349 : decode cL_law 349 = .ok (.iload_n 3, 1) := by decide +kernel
theorem dL_law_350 : decode cL_law 350 = .ok (.iconst 1, 1) := by decide +kernel
theorem dL_law_351 : decode cL_law 351 = .ok (.iadd, 1) := by decide +kernel
theorem dL_law_352 : decode cL_law 352 = .ok (.iaload, 1) := by decide +kernel
theorem dL_law_353 : decode cL_law 353 = .ok (.aload_n 0, 1) := by decide +kernel
theorem dL_law_354 : decode cL_law 354 = .ok (.iload_n 3, 1) := by decide +kernel
theorem dL_law_355 : decode cL_law 355 = .ok (.iconst 2, 1) := by decide +kernel
theorem dL_law_356 : decode cL_law 356 = .ok (.iadd, 1) := by decide +kernel
theorem dL_law_357 : decode cL_law 357 = .ok (.iaload, 1) := by decide +kernel
theorem dL_law_358 : decode cL_law 358 = .ok (.invokevirtual 36, 3) := by decide +kernel
theorem dL_law_361 : decode cL_law 361 = .ok (.aload_n 2, 1) := by decide +kernel
theorem dL_law_362 : decode cL_law 362 = .ok (.aload_n 0, 1) := by decide +kernel
theorem dL_law_363 : decode cL_law 363 = .ok (.iload_n 3, 1) := by decide +kernel
theorem dL_law_364 : decode cL_law 364 = .ok (.iconst 1, 1) := by decide +kernel
theorem dL_law_365 : decode cL_law 365 = .ok (.iadd, 1) := by decide +kernel
theorem dL_law_366 : decode cL_law 366 = .ok (.iaload, 1) := by decide +kernel
theorem dL_law_367 : decode cL_law 367 = .ok (.aload_n 0, 1) := by decide +kernel
theorem dL_law_368 : decode cL_law 368 = .ok (.iload_n 3, 1) := by decide +kernel
theorem dL_law_369 : decode cL_law 369 = .ok (.iconst 2, 1) := by decide +kernel
theorem dL_law_370 : decode cL_law 370 = .ok (.iadd, 1) := by decide +kernel
theorem dL_law_371 : decode cL_law 371 = .ok (.iaload, 1) := by decide +kernel
theorem dL_law_372 : decode cL_law 372 = .ok (.invokevirtual 40, 3) := by decide +kernel
theorem dL_law_375 : decode cL_law 375 = .ok (.if_icmp .eq 1136, 3) := by decide +kernel
theorem dL_law_378 : decode cL_law 378 = .ok (.iconst 0, 1) := by decide +kernel
theorem dL_law_379 : decode cL_law 379 = .ok (.ireturn, 1) := by decide +kernel
theorem dL_law_380 : decode cL_law 380 = .ok (.aload_n 1, 1) := by decide +kernel
theorem dL_law_381 : decode cL_law 381 = .ok (.aload_n 0, 1) := by decide +kernel
theorem dL_law_382 : decode cL_law 382 = .ok (.iload_n 3, 1) := by decide +kernel
theorem dL_law_383 : decode cL_law 383 = .ok (.iconst 1, 1) := by decide +kernel
theorem dL_law_384 : decode cL_law 384 = .ok (.iadd, 1) := by decide +kernel
theorem dL_law_385 : decode cL_law 385 = .ok (.iaload, 1) := by decide +kernel
theorem dL_law_386 : decode cL_law 386 = .ok (.aload_n 0, 1) := by decide +kernel
theorem dL_law_387 : decode cL_law 387 = .ok (.iload_n 3, 1) := by decide +kernel
theorem dL_law_388 : decode cL_law 388 = .ok (.iconst 2, 1) := by decide +kernel
theorem dL_law_389 : decode cL_law 389 = .ok (.iadd, 1) := by decide +kernel
theorem dL_law_390 : decode cL_law 390 = .ok (.iaload, 1) := by decide +kernel
theorem dL_law_391 : decode cL_law 391 = .ok (.aload_n 0, 1) := by decide +kernel
theorem dL_law_392 : decode cL_law 392 = .ok (.iload_n 3, 1) := by decide +kernel
theorem dL_law_393 : decode cL_law 393 = .ok (.iconst 3, 1) := by decide +kernel
theorem dL_law_394 : decode cL_law 394 = .ok (.iadd, 1) := by decide +kernel
theorem dL_law_395 : decode cL_law 395 = .ok (.iaload, 1) := by decide +kernel
theorem dL_law_396 : decode cL_law 396 = .ok (.invokevirtual 41, 3) := by decide +kernel
theorem dL_law_399 : decode cL_law 399 = .ok (.aload_n 2, 1) := by decide +kernel
theorem dL_law_400 : decode cL_law 400 = .ok (.aload_n 0, 1) := by decide +kernel
theorem dL_law_401 : decode cL_law 401 = .ok (.iload_n 3, 1) := by decide +kernel
theorem dL_law_402 : decode cL_law 402 = .ok (.iconst 1, 1) := by decide +kernel
theorem dL_law_403 : decode cL_law 403 = .ok (.iadd, 1) := by decide +kernel
theorem dL_law_404 : decode cL_law 404 = .ok (.iaload, 1) := by decide +kernel
theorem dL_law_405 : decode cL_law 405 = .ok (.aload_n 0, 1) := by decide +kernel
theorem dL_law_406 : decode cL_law 406 = .ok (.iload_n 3, 1) := by decide +kernel
theorem dL_law_407 : decode cL_law 407 = .ok (.iconst 2, 1) := by decide +kernel
theorem dL_law_408 : decode cL_law 408 = .ok (.iadd, 1) := by decide +kernel
theorem dL_law_409 : decode cL_law 409 = .ok (.iaload, 1) := by decide +kernel
theorem dL_law_410 : decode cL_law 410 = .ok (.aload_n 0, 1) := by decide +kernel
theorem dL_law_411 : decode cL_law 411 = .ok (.iload_n 3, 1) := by decide +kernel
theorem dL_law_412 : decode cL_law 412 = .ok (.iconst 3, 1) := by decide +kernel
theorem dL_law_413 : decode cL_law 413 = .ok (.iadd, 1) := by decide +kernel
theorem dL_law_414 : decode cL_law 414 = .ok (.iaload, 1) := by decide +kernel
theorem dL_law_415 : decode cL_law 415 = .ok (.invokevirtual 45, 3) := by decide +kernel
theorem dL_law_418 : decode cL_law 418 = .ok (.if_icmp .eq 1093, 3) := by decide +kernel
theorem dL_law_421 : decode cL_law 421 = .ok (.iconst 0, 1) := by decide +kernel
theorem dL_law_422 : decode cL_law 422 = .ok (.ireturn, 1) := by decide +kernel
theorem dL_law_423 : decode cL_law 423 = .ok (.aload_n 1, 1) := by decide +kernel
theorem dL_law_424 : decode cL_law 424 = .ok (.aload_n 0, 1) := by decide +kernel
theorem dL_law_425 : decode cL_law 425 = .ok (.iload_n 3, 1) := by decide +kernel
theorem dL_law_426 : decode cL_law 426 = .ok (.iconst 1, 1) := by decide +kernel
theorem dL_law_427 : decode cL_law 427 = .ok (.iadd, 1) := by decide +kernel
theorem dL_law_428 : decode cL_law 428 = .ok (.iaload, 1) := by decide +kernel
theorem dL_law_429 : decode cL_law 429 = .ok (.aload_n 0, 1) := by decide +kernel
theorem dL_law_430 : decode cL_law 430 = .ok (.iload_n 3, 1) := by decide +kernel
theorem dL_law_431 : decode cL_law 431 = .ok (.iconst 2, 1) := by decide +kernel
theorem dL_law_432 : decode cL_law 432 = .ok (.iadd, 1) := by decide +kernel
theorem dL_law_433 : decode cL_law 433 = .ok (.iaload, 1) := by decide +kernel
theorem dL_law_434 : decode cL_law 434 = .ok (.invokevirtual 46, 3) := by decide +kernel
theorem dL_law_437 : decode cL_law 437 = .ok (.aload_n 2, 1) := by decide +kernel
theorem dL_law_438 : decode cL_law 438 = .ok (.aload_n 0, 1) := by decide +kernel
theorem dL_law_439 : decode cL_law 439 = .ok (.iload_n 3, 1) := by decide +kernel
theorem dL_law_440 : decode cL_law 440 = .ok (.iconst 1, 1) := by decide +kernel
theorem dL_law_441 : decode cL_law 441 = .ok (.iadd, 1) := by decide +kernel
theorem dL_law_442 : decode cL_law 442 = .ok (.iaload, 1) := by decide +kernel
theorem dL_law_443 : decode cL_law 443 = .ok (.aload_n 0, 1) := by decide +kernel
theorem dL_law_444 : decode cL_law 444 = .ok (.iload_n 3, 1) := by decide +kernel
theorem dL_law_445 : decode cL_law 445 = .ok (.iconst 2, 1) := by decide +kernel
theorem dL_law_446 : decode cL_law 446 = .ok (.iadd, 1) := by decide +kernel
theorem dL_law_447 : decode cL_law 447 = .ok (.iaload, 1) := by decide +kernel
theorem dL_law_448 : decode cL_law 448 = .ok (.invokevirtual 49, 3) := by decide +kernel
theorem dL_law_451 : decode cL_law 451 = .ok (.if_icmp .eq 1060, 3) := by decide +kernel
theorem dL_law_454 : decode cL_law 454 = .ok (.iconst 0, 1) := by decide +kernel
theorem dL_law_455 : decode cL_law 455 = .ok (.ireturn, 1) := by decide +kernel
theorem dL_law_456 : decode cL_law 456 = .ok (.aload_n 1, 1) := by decide +kernel
theorem dL_law_457 : decode cL_law 457 = .ok (.aload_n 0, 1) := by decide +kernel
theorem dL_law_458 : decode cL_law 458 = .ok (.iload_n 3, 1) := by decide +kernel
theorem dL_law_459 : decode cL_law 459 = .ok (.iconst 1, 1) := by decide +kernel
theorem dL_law_460 : decode cL_law 460 = .ok (.iadd, 1) := by decide +kernel
theorem dL_law_461 : decode cL_law 461 = .ok (.iaload, 1) := by decide +kernel
theorem dL_law_462 : decode cL_law 462 = .ok (.invokevirtual 50, 3) := by decide +kernel
theorem dL_law_465 : decode cL_law 465 = .ok (.aload_n 2, 1) := by decide +kernel
theorem dL_law_466 : decode cL_law 466 = .ok (.aload_n 0, 1) := by decide +kernel
theorem dL_law_467 : decode cL_law 467 = .ok (.iload_n 3, 1) := by decide +kernel
theorem dL_law_468 : decode cL_law 468 = .ok (.iconst 1, 1) := by decide +kernel
theorem dL_law_469 : decode cL_law 469 = .ok (.iadd, 1) := by decide +kernel
theorem dL_law_470 : decode cL_law 470 = .ok (.iaload, 1) := by decide +kernel
theorem dL_law_471 : decode cL_law 471 = .ok (.invokevirtual 53, 3) := by decide +kernel
theorem dL_law_474 : decode cL_law 474 = .ok (.if_icmp .eq 1037, 3) := by decide +kernel
theorem dL_law_477 : decode cL_law 477 = .ok (.iconst 0, 1) := by decide +kernel
theorem dL_law_478 : decode cL_law 478 = .ok (.ireturn, 1) := by decide +kernel
theorem dL_law_479 : decode cL_law 479 = .ok (.aload_n 1, 1) := by decide +kernel
theorem dL_law_480 : decode cL_law 480 = .ok (.invokevirtual 54, 3) := by decide +kernel
theorem dL_law_483 : decode cL_law 483 = .ok (.aload_n 2, 1) := by decide +kernel
theorem dL_law_484 : decode cL_law 484 = .ok (.invokevirtual 58, 3) := by decide +kernel
theorem dL_law_487 : decode cL_law 487 = .ok (.lcmp, 1) := by decide +kernel
theorem dL_law_488 : decode cL_law 488 = .ok (.ifCond .eq 1023, 3) := by decide +kernel
theorem dL_law_491 : decode cL_law 491 = .ok (.iconst 0, 1) := by decide +kernel
theorem dL_law_492 : decode cL_law 492 = .ok (.ireturn, 1) := by decide +kernel
theorem dL_law_493 : decode cL_law 493 = .ok (.aload_n 1, 1) := by decide +kernel
theorem dL_law_494 : decode cL_law 494 = .ok (.aload_n 0, 1) := by decide +kernel
theorem dL_law_495 : decode cL_law 495 = .ok (.iload_n 3, 1) := by decide +kernel
theorem dL_law_496 : decode cL_law 496 = .ok (.iconst 1, 1) := by decide +kernel
theorem dL_law_497 : decode cL_law 497 = .ok (.iadd, 1) := by decide +kernel
theorem dL_law_498 : decode cL_law 498 = .ok (.iaload, 1) := by decide +kernel
theorem dL_law_499 : decode cL_law 499 = .ok (.aload_n 0, 1) := by decide +kernel
theorem dL_law_500 : decode cL_law 500 = .ok (.iload_n 3, 1) := by decide +kernel
theorem dL_law_501 : decode cL_law 501 = .ok (.iconst 2, 1) := by decide +kernel
theorem dL_law_502 : decode cL_law 502 = .ok (.iadd, 1) := by decide +kernel
theorem dL_law_503 : decode cL_law 503 = .ok (.iaload, 1) := by decide +kernel
theorem dL_law_504 : decode cL_law 504 = .ok (.invokevirtual 59, 3) := by decide +kernel
theorem dL_law_507 : decode cL_law 507 = .ok (.aload_n 2, 1) := by decide +kernel
theorem dL_law_508 : decode cL_law 508 = .ok (.aload_n 0, 1) := by decide +kernel
theorem dL_law_509 : decode cL_law 509 = .ok (.iload_n 3, 1) := by decide +kernel
theorem dL_law_510 : decode cL_law 510 = .ok (.iconst 1, 1) := by decide +kernel
theorem dL_law_511 : decode cL_law 511 = .ok (.iadd, 1) := by decide +kernel
theorem dL_law_512 : decode cL_law 512 = .ok (.iaload, 1) := by decide +kernel
theorem dL_law_513 : decode cL_law 513 = .ok (.aload_n 0, 1) := by decide +kernel
theorem dL_law_514 : decode cL_law 514 = .ok (.iload_n 3, 1) := by decide +kernel
theorem dL_law_515 : decode cL_law 515 = .ok (.iconst 2, 1) := by decide +kernel
theorem dL_law_516 : decode cL_law 516 = .ok (.iadd, 1) := by decide +kernel
theorem dL_law_517 : decode cL_law 517 = .ok (.iaload, 1) := by decide +kernel
theorem dL_law_518 : decode cL_law 518 = .ok (.invokevirtual 63, 3) := by decide +kernel
theorem dL_law_521 : decode cL_law 521 = .ok (.lcmp, 1) := by decide +kernel
theorem dL_law_522 : decode cL_law 522 = .ok (.ifCond .eq 989, 3) := by decide +kernel
theorem dL_law_525 : decode cL_law 525 = .ok (.iconst 0, 1) := by decide +kernel
theorem dL_law_526 : decode cL_law 526 = .ok (.ireturn, 1) := by decide +kernel
theorem dL_law_527 : decode cL_law 527 = .ok (.aload_n 1, 1) := by decide +kernel
theorem dL_law_528 : decode cL_law 528 = .ok (.aload_n 0, 1) := by decide +kernel
theorem dL_law_529 : decode cL_law 529 = .ok (.iload_n 3, 1) := by decide +kernel
theorem dL_law_530 : decode cL_law 530 = .ok (.iconst 1, 1) := by decide +kernel
theorem dL_law_531 : decode cL_law 531 = .ok (.iadd, 1) := by decide +kernel
theorem dL_law_532 : decode cL_law 532 = .ok (.iaload, 1) := by decide +kernel
theorem dL_law_533 : decode cL_law 533 = .ok (.aload_n 0, 1) := by decide +kernel
theorem dL_law_534 : decode cL_law 534 = .ok (.iload_n 3, 1) := by decide +kernel
theorem dL_law_535 : decode cL_law 535 = .ok (.iconst 2, 1) := by decide +kernel
theorem dL_law_536 : decode cL_law 536 = .ok (.iadd, 1) := by decide +kernel
theorem dL_law_537 : decode cL_law 537 = .ok (.iaload, 1) := by decide +kernel
theorem dL_law_538 : decode cL_law 538 = .ok (.aload_n 0, 1) := by decide +kernel
theorem dL_law_539 : decode cL_law 539 = .ok (.iload_n 3, 1) := by decide +kernel
theorem dL_law_540 : decode cL_law 540 = .ok (.iconst 3, 1) := by decide +kernel
theorem dL_law_541 : decode cL_law 541 = .ok (.iadd, 1) := by decide +kernel
theorem dL_law_542 : decode cL_law 542 = .ok (.iaload, 1) := by decide +kernel
theorem dL_law_543 : decode cL_law 543 = .ok (.aload_n 0, 1) := by decide +kernel
theorem dL_law_544 : decode cL_law 544 = .ok (.iload_n 3, 1) := by decide +kernel
theorem dL_law_545 : decode cL_law 545 = .ok (.iconst 4, 1) := by decide +kernel
theorem dL_law_546 : decode cL_law 546 = .ok (.iadd, 1) := by decide +kernel
theorem dL_law_547 : decode cL_law 547 = .ok (.iaload, 1) := by decide +kernel
theorem dL_law_548 : decode cL_law 548 = .ok (.invokevirtual 64, 3) := by decide +kernel
theorem dL_law_551 : decode cL_law 551 = .ok (.aload_n 2, 1) := by decide +kernel
theorem dL_law_552 : decode cL_law 552 = .ok (.aload_n 0, 1) := by decide +kernel
theorem dL_law_553 : decode cL_law 553 = .ok (.iload_n 3, 1) := by decide +kernel
theorem dL_law_554 : decode cL_law 554 = .ok (.iconst 1, 1) := by decide +kernel
theorem dL_law_555 : decode cL_law 555 = .ok (.iadd, 1) := by decide +kernel
theorem dL_law_556 : decode cL_law 556 = .ok (.iaload, 1) := by decide +kernel
theorem dL_law_557 : decode cL_law 557 = .ok (.aload_n 0, 1) := by decide +kernel
theorem dL_law_558 : decode cL_law 558 = .ok (.iload_n 3, 1) := by decide +kernel
theorem dL_law_559 : decode cL_law 559 = .ok (.iconst 2, 1) := by decide +kernel
theorem dL_law_560 : decode cL_law 560 = .ok (.iadd, 1) := by decide +kernel
theorem dL_law_561 : decode cL_law 561 = .ok (.iaload, 1) := by decide +kernel
theorem dL_law_562 : decode cL_law 562 = .ok (.aload_n 0, 1) := by decide +kernel
theorem dL_law_563 : decode cL_law 563 = .ok (.iload_n 3, 1) := by decide +kernel
theorem dL_law_564 : decode cL_law 564 = .ok (.iconst 3, 1) := by decide +kernel
theorem dL_law_565 : decode cL_law 565 = .ok (.iadd, 1) := by decide +kernel
theorem dL_law_566 : decode cL_law 566 = .ok (.iaload, 1) := by decide +kernel
theorem dL_law_567 : decode cL_law 567 = .ok (.aload_n 0, 1) := by decide +kernel
theorem dL_law_568 : decode cL_law 568 = .ok (.iload_n 3, 1) := by decide +kernel
theorem dL_law_569 : decode cL_law 569 = .ok (.iconst 4, 1) := by decide +kernel
theorem dL_law_570 : decode cL_law 570 = .ok (.iadd, 1) := by decide +kernel
theorem dL_law_571 : decode cL_law 571 = .ok (.iaload, 1) := by decide +kernel
theorem dL_law_572 : decode cL_law 572 = .ok (.invokevirtual 68, 3) := by decide +kernel
theorem dL_law_575 : decode cL_law 575 = .ok (.lcmp, 1) := by decide +kernel
theorem dL_law_576 : decode cL_law 576 = .ok (.ifCond .eq 935, 3) := by decide +kernel
theorem dL_law_579 : decode cL_law 579 = .ok (.iconst 0, 1) := by decide +kernel
theorem dL_law_580 : decode cL_law 580 = .ok (.ireturn, 1) := by decide +kernel
theorem dL_law_581 : decode cL_law 581 = .ok (.aload_n 1, 1) := by decide +kernel
theorem dL_law_582 : decode cL_law 582 = .ok (.aload_n 0, 1) := by decide +kernel
theorem dL_law_583 : decode cL_law 583 = .ok (.iload_n 3, 1) := by decide +kernel
theorem dL_law_584 : decode cL_law 584 = .ok (.iconst 1, 1) := by decide +kernel
theorem dL_law_585 : decode cL_law 585 = .ok (.iadd, 1) := by decide +kernel
theorem dL_law_586 : decode cL_law 586 = .ok (.iaload, 1) := by decide +kernel
theorem dL_law_587 : decode cL_law 587 = .ok (.aload_n 0, 1) := by decide +kernel
theorem dL_law_588 : decode cL_law 588 = .ok (.iload_n 3, 1) := by decide +kernel
theorem dL_law_589 : decode cL_law 589 = .ok (.iconst 2, 1) := by decide +kernel
theorem dL_law_590 : decode cL_law 590 = .ok (.iadd, 1) := by decide +kernel
theorem dL_law_591 : decode cL_law 591 = .ok (.iaload, 1) := by decide +kernel
theorem dL_law_592 : decode cL_law 592 = .ok (.invokevirtual 69, 3) := by decide +kernel
theorem dL_law_595 : decode cL_law 595 = .ok (.aload_n 2, 1) := by decide +kernel
theorem dL_law_596 : decode cL_law 596 = .ok (.aload_n 0, 1) := by decide +kernel
theorem dL_law_597 : decode cL_law 597 = .ok (.iload_n 3, 1) := by decide +kernel
theorem dL_law_598 : decode cL_law 598 = .ok (.iconst 1, 1) := by decide +kernel
theorem dL_law_599 : decode cL_law 599 = .ok (.iadd, 1) := by decide +kernel
theorem dL_law_600 : decode cL_law 600 = .ok (.iaload, 1) := by decide +kernel
theorem dL_law_601 : decode cL_law 601 = .ok (.aload_n 0, 1) := by decide +kernel
theorem dL_law_602 : decode cL_law 602 = .ok (.iload_n 3, 1) := by decide +kernel
theorem dL_law_603 : decode cL_law 603 = .ok (.iconst 2, 1) := by decide +kernel
theorem dL_law_604 : decode cL_law 604 = .ok (.iadd, 1) := by decide +kernel
theorem dL_law_605 : decode cL_law 605 = .ok (.iaload, 1) := by decide +kernel
theorem dL_law_606 : decode cL_law 606 = .ok (.invokevirtual 72, 3) := by decide +kernel
theorem dL_law_609 : decode cL_law 609 = .ok (.if_icmp .eq 902, 3) := by decide +kernel
theorem dL_law_612 : decode cL_law 612 = .ok (.iconst 0, 1) := by decide +kernel
theorem dL_law_613 : decode cL_law 613 = .ok (.ireturn, 1) := by decide +kernel
theorem dL_law_614 : decode cL_law 614 = .ok (.aload_n 1, 1) := by decide +kernel
theorem dL_law_615 : decode cL_law 615 = .ok (.aload_n 0, 1) := by decide +kernel
theorem dL_law_616 : decode cL_law 616 = .ok (.iload_n 3, 1) := by decide +kernel
theorem dL_law_617 : decode cL_law 617 = .ok (.iconst 1, 1) := by decide +kernel
theorem dL_law_618 : decode cL_law 618 = .ok (.iadd, 1) := by decide +kernel
theorem dL_law_619 : decode cL_law 619 = .ok (.iaload, 1) := by decide +kernel
theorem dL_law_620 : decode cL_law 620 = .ok (.aload_n 0, 1) := by decide +kernel
theorem dL_law_621 : decode cL_law 621 = .ok (.iload_n 3, 1) := by decide +kernel
theorem dL_law_622 : decode cL_law 622 = .ok (.iconst 2, 1) := by decide +kernel
theorem dL_law_623 : decode cL_law 623 = .ok (.iadd, 1) := by decide +kernel
theorem dL_law_624 : decode cL_law 624 = .ok (.iaload, 1) := by decide +kernel
theorem dL_law_625 : decode cL_law 625 = .ok (.i2l, 1) := by decide +kernel
theorem dL_law_626 : decode cL_law 626 = .ok (.bipush 32, 2) := by decide +kernel
theorem dL_law_628 : decode cL_law 628 = .ok (.lshl, 1) := by decide +kernel
theorem dL_law_629 : decode cL_law 629 = .ok (.aload_n 0, 1) := by decide +kernel
theorem dL_law_630 : decode cL_law 630 = .ok (.iload_n 3, 1) := by decide +kernel
theorem dL_law_631 : decode cL_law 631 = .ok (.iconst 3, 1) := by decide +kernel
theorem dL_law_632 : decode cL_law 632 = .ok (.iadd, 1) := by decide +kernel
theorem dL_law_633 : decode cL_law 633 = .ok (.iaload, 1) := by decide +kernel
theorem dL_law_634 : decode cL_law 634 = .ok (.i2l, 1) := by decide +kernel
theorem dL_law_635 : decode cL_law 635 = .ok (.ldc2_w 73, 3) := by decide +kernel
theorem dL_law_638 : decode cL_law 638 = .ok (.land, 1) := by decide +kernel
end
section
theorem dL_law_639 : decode cL_law 639 = .ok (.lor, 1) := by decide +kernel
theorem dL_law_640 : decode cL_law 640 = .ok (.invokevirtual 75, 3) := by decide +kernel
theorem dL_law_643 : decode cL_law 643 = .ok (.aload_n 2, 1) := by decide +kernel
theorem dL_law_644 : decode cL_law 644 = .ok (.aload_n 0, 1) := by decide +kernel
theorem dL_law_645 : decode cL_law 645 = .ok (.iload_n 3, 1) := by decide +kernel
theorem dL_law_646 : decode cL_law 646 = .ok (.iconst 1, 1) := by decide +kernel
theorem dL_law_647 : decode cL_law 647 = .ok (.iadd, 1) := by decide +kernel
theorem dL_law_648 : decode cL_law 648 = .ok (.iaload, 1) := by decide +kernel
theorem dL_law_649 : decode cL_law 649 = .ok (.aload_n 0, 1) := by decide +kernel
theorem dL_law_650 : decode cL_law 650 = .ok (.iload_n 3, 1) := by decide +kernel
theorem dL_law_651 : decode cL_law 651 = .ok (.iconst 2, 1) := by decide +kernel
theorem dL_law_652 : decode cL_law 652 = .ok (.iadd, 1) := by decide +kernel
theorem dL_law_653 : decode cL_law 653 = .ok (.iaload, 1) := by decide +kernel
theorem dL_law_654 : decode cL_law 654 = .ok (.i2l, 1) := by decide +kernel
theorem dL_law_655 : decode cL_law 655 = .ok (.bipush 32, 2) := by decide +kernel
theorem dL_law_657 : decode cL_law 657 = .ok (.lshl, 1) := by decide +kernel
theorem dL_law_658 : decode cL_law 658 = .ok (.aload_n 0, 1) := by decide +kernel
theorem dL_law_659 : decode cL_law 659 = .ok (.iload_n 3, 1) := by decide +kernel
theorem dL_law_660 : decode cL_law 660 = .ok (.iconst 3, 1) := by decide +kernel
theorem dL_law_661 : decode cL_law 661 = .ok (.iadd, 1) := by decide +kernel
theorem dL_law_662 : decode cL_law 662 = .ok (.iaload, 1) := by decide +kernel
theorem dL_law_663 : decode cL_law 663 = .ok (.i2l, 1) := by decide +kernel
theorem dL_law_664 : decode cL_law 664 = .ok (.ldc2_w 73, 3) := by decide +kernel
theorem dL_law_667 : decode cL_law 667 = .ok (.land, 1) := by decide +kernel
theorem dL_law_668 : decode cL_law 668 = .ok (.lor, 1) := by decide +kernel
theorem dL_law_669 : decode cL_law 669 = .ok (.invokevirtual 79, 3) := by decide +kernel
theorem dL_law_672 : decode cL_law 672 = .ok (.if_icmp .eq 839, 3) := by decide +kernel
theorem dL_law_675 : decode cL_law 675 = .ok (.iconst 0, 1) := by decide +kernel
theorem dL_law_676 : decode cL_law 676 = .ok (.ireturn, 1) := by decide +kernel
theorem dL_law_677 : decode cL_law 677 = .ok (.aload_n 1, 1) := by decide +kernel
theorem dL_law_678 : decode cL_law 678 = .ok (.invokevirtual 80, 3) := by decide +kernel
theorem dL_law_681 : decode cL_law 681 = .ok (.aload_n 2, 1) := by decide +kernel
theorem dL_law_682 : decode cL_law 682 = .ok (.invokevirtual 84, 3) := by decide +kernel
theorem dL_law_685 : decode cL_law 685 = .ok (.if_icmp .eq 826, 3) := by decide +kernel
theorem dL_law_688 : decode cL_law 688 = .ok (.iconst 0, 1) := by decide +kernel
theorem dL_law_689 : decode cL_law 689 = .ok (.ireturn, 1) := by decide +kernel
theorem dL_law_690 : decode cL_law 690 = .ok (.aload_n 1, 1) := by decide +kernel
theorem dL_law_691 : decode cL_law 691 = .ok (.aload_n 0, 1) := by decide +kernel
theorem dL_law_692 : decode cL_law 692 = .ok (.iload_n 3, 1) := by decide +kernel
theorem dL_law_693 : decode cL_law 693 = .ok (.iconst 1, 1) := by decide +kernel
theorem dL_law_694 : decode cL_law 694 = .ok (.iadd, 1) := by decide +kernel
theorem dL_law_695 : decode cL_law 695 = .ok (.iaload, 1) := by decide +kernel
theorem dL_law_696 : decode cL_law 696 = .ok (.aload_n 0, 1) := by decide +kernel
theorem dL_law_697 : decode cL_law 697 = .ok (.iload_n 3, 1) := by decide +kernel
theorem dL_law_698 : decode cL_law 698 = .ok (.iconst 2, 1) := by decide +kernel
theorem dL_law_699 : decode cL_law 699 = .ok (.iadd, 1) := by decide +kernel
theorem dL_law_700 : decode cL_law 700 = .ok (.iaload, 1) := by decide +kernel
theorem dL_law_701 : decode cL_law 701 = .ok (.aload_n 0, 1) := by decide +kernel
theorem dL_law_702 : decode cL_law 702 = .ok (.iload_n 3, 1) := by decide +kernel
theorem dL_law_703 : decode cL_law 703 = .ok (.iconst 3, 1) := by decide +kernel
theorem dL_law_704 : decode cL_law 704 = .ok (.iadd, 1) := by decide +kernel
theorem dL_law_705 : decode cL_law 705 = .ok (.iaload, 1) := by decide +kernel
theorem dL_law_706 : decode cL_law 706 = .ok (.invokevirtual 85, 3) := by decide +kernel
theorem dL_law_709 : decode cL_law 709 = .ok (.aload_n 2, 1) := by decide +kernel
theorem dL_law_710 : decode cL_law 710 = .ok (.aload_n 0, 1) := by decide +kernel
theorem dL_law_711 : decode cL_law 711 = .ok (.iload_n 3, 1) := by decide +kernel
theorem dL_law_712 : decode cL_law 712 = .ok (.iconst 1, 1) := by decide +kernel
theorem dL_law_713 : decode cL_law 713 = .ok (.iadd, 1) := by decide +kernel
theorem dL_law_714 : decode cL_law 714 = .ok (.iaload, 1) := by decide +kernel
theorem dL_law_715 : decode cL_law 715 = .ok (.aload_n 0, 1) := by decide +kernel
theorem dL_law_716 : decode cL_law 716 = .ok (.iload_n 3, 1) := by decide +kernel
theorem dL_law_717 : decode cL_law 717 = .ok (.iconst 2, 1) := by decide +kernel
theorem dL_law_718 : decode cL_law 718 = .ok (.iadd, 1) := by decide +kernel
theorem dL_law_719 : decode cL_law 719 = .ok (.iaload, 1) := by decide +kernel
theorem dL_law_720 : decode cL_law 720 = .ok (.aload_n 0, 1) := by decide +kernel
theorem dL_law_721 : decode cL_law 721 = .ok (.iload_n 3, 1) := by decide +kernel
theorem dL_law_722 : decode cL_law 722 = .ok (.iconst 3, 1) := by decide +kernel
theorem dL_law_723 : decode cL_law 723 = .ok (.iadd, 1) := by decide +kernel
theorem dL_law_724 : decode cL_law 724 = .ok (.iaload, 1) := by decide +kernel
theorem dL_law_725 : decode cL_law 725 = .ok (.invokevirtual 88, 3) := by decide +kernel
theorem dL_law_728 : decode cL_law 728 = .ok (.if_icmp .eq 783, 3) := by decide +kernel
theorem dL_law_731 : decode cL_law 731 = .ok (.iconst 0, 1) := by decide +kernel
theorem dL_law_732 : decode cL_law 732 = .ok (.ireturn, 1) := by decide +kernel
theorem dL_law_733 : decode cL_law 733 = .ok (.aload_n 1, 1) := by decide +kernel
theorem dL_law_734 : decode cL_law 734 = .ok (.aload_n 0, 1) := by decide +kernel
theorem dL_law_735 : decode cL_law 735 = .ok (.iload_n 3, 1) := by decide +kernel
theorem dL_law_736 : decode cL_law 736 = .ok (.iconst 1, 1) := by decide +kernel
theorem dL_law_737 : decode cL_law 737 = .ok (.iadd, 1) := by decide +kernel
theorem dL_law_738 : decode cL_law 738 = .ok (.iaload, 1) := by decide +kernel
theorem dL_law_739 : decode cL_law 739 = .ok (.aload_n 0, 1) := by decide +kernel
theorem dL_law_740 : decode cL_law 740 = .ok (.iload_n 3, 1) := by decide +kernel
theorem dL_law_741 : decode cL_law 741 = .ok (.iconst 2, 1) := by decide +kernel
theorem dL_law_742 : decode cL_law 742 = .ok (.iadd, 1) := by decide +kernel
theorem dL_law_743 : decode cL_law 743 = .ok (.iaload, 1) := by decide +kernel
theorem dL_law_744 : decode cL_law 744 = .ok (.invokevirtual 89, 3) := by decide +kernel
theorem dL_law_747 : decode cL_law 747 = .ok (.aload_n 2, 1) := by decide +kernel
theorem dL_law_748 : decode cL_law 748 = .ok (.aload_n 0, 1) := by decide +kernel
theorem dL_law_749 : decode cL_law 749 = .ok (.iload_n 3, 1) := by decide +kernel
theorem dL_law_750 : decode cL_law 750 = .ok (.iconst 1, 1) := by decide +kernel
theorem dL_law_751 : decode cL_law 751 = .ok (.iadd, 1) := by decide +kernel
theorem dL_law_752 : decode cL_law 752 = .ok (.iaload, 1) := by decide +kernel
theorem dL_law_753 : decode cL_law 753 = .ok (.aload_n 0, 1) := by decide +kernel
theorem dL_law_754 : decode cL_law 754 = .ok (.iload_n 3, 1) := by decide +kernel
theorem dL_law_755 : decode cL_law 755 = .ok (.iconst 2, 1) := by decide +kernel
theorem dL_law_756 : decode cL_law 756 = .ok (.iadd, 1) := by decide +kernel
theorem dL_law_757 : decode cL_law 757 = .ok (.iaload, 1) := by decide +kernel
theorem dL_law_758 : decode cL_law 758 = .ok (.invokevirtual 92, 3) := by decide +kernel
theorem dL_law_761 : decode cL_law 761 = .ok (.if_icmp .eq 750, 3) := by decide +kernel
theorem dL_law_764 : decode cL_law 764 = .ok (.iconst 0, 1) := by decide +kernel
theorem dL_law_765 : decode cL_law 765 = .ok (.ireturn, 1) := by decide +kernel
theorem dL_law_766 : decode cL_law 766 = .ok (.aload_n 1, 1) := by decide +kernel
theorem dL_law_767 : decode cL_law 767 = .ok (.aload_n 0, 1) := by decide +kernel
theorem dL_law_768 : decode cL_law 768 = .ok (.iload_n 3, 1) := by decide +kernel
theorem dL_law_769 : decode cL_law 769 = .ok (.iconst 1, 1) := by decide +kernel
theorem dL_law_770 : decode cL_law 770 = .ok (.iadd, 1) := by decide +kernel
theorem dL_law_771 : decode cL_law 771 = .ok (.iaload, 1) := by decide +kernel
theorem dL_law_772 : decode cL_law 772 = .ok (.aload_n 0, 1) := by decide +kernel
theorem dL_law_773 : decode cL_law 773 = .ok (.iload_n 3, 1) := by decide +kernel
theorem dL_law_774 : decode cL_law 774 = .ok (.iconst 2, 1) := by decide +kernel
theorem dL_law_775 : decode cL_law 775 = .ok (.iadd, 1) := by decide +kernel
theorem dL_law_776 : decode cL_law 776 = .ok (.iaload, 1) := by decide +kernel
theorem dL_law_777 : decode cL_law 777 = .ok (.aload_n 0, 1) := by decide +kernel
theorem dL_law_778 : decode cL_law 778 = .ok (.iload_n 3, 1) := by decide +kernel
theorem dL_law_779 : decode cL_law 779 = .ok (.iconst 3, 1) := by decide +kernel
theorem dL_law_780 : decode cL_law 780 = .ok (.iadd, 1) := by decide +kernel
theorem dL_law_781 : decode cL_law 781 = .ok (.iaload, 1) := by decide +kernel
theorem dL_law_782 : decode cL_law 782 = .ok (.aload_n 0, 1) := by decide +kernel
theorem dL_law_783 : decode cL_law 783 = .ok (.iload_n 3, 1) := by decide +kernel
theorem dL_law_784 : decode cL_law 784 = .ok (.iconst 4, 1) := by decide +kernel
theorem dL_law_785 : decode cL_law 785 = .ok (.iadd, 1) := by decide +kernel
theorem dL_law_786 : decode cL_law 786 = .ok (.iaload, 1) := by decide +kernel
theorem dL_law_787 : decode cL_law 787 = .ok (.invokevirtual 93, 3) := by decide +kernel
theorem dL_law_790 : decode cL_law 790 = .ok (.aload_n 2, 1) := by decide +kernel
theorem dL_law_791 : decode cL_law 791 = .ok (.aload_n 0, 1) := by decide +kernel
theorem dL_law_792 : decode cL_law 792 = .ok (.iload_n 3, 1) := by decide +kernel
theorem dL_law_793 : decode cL_law 793 = .ok (.iconst 1, 1) := by decide +kernel
theorem dL_law_794 : decode cL_law 794 = .ok (.iadd, 1) := by decide +kernel
theorem dL_law_795 : decode cL_law 795 = .ok (.iaload, 1) := by decide +kernel
theorem dL_law_796 : decode cL_law 796 = .ok (.aload_n 0, 1) := by decide +kernel
theorem dL_law_797 : decode cL_law 797 = .ok (.iload_n 3, 1) := by decide +kernel
theorem dL_law_798 : decode cL_law 798 = .ok (.iconst 2, 1) := by decide +kernel
theorem dL_law_799 : decode cL_law 799 = .ok (.iadd, 1) := by decide +kernel
theorem dL_law_800 : decode cL_law 800 = .ok (.iaload, 1) := by decide +kernel
theorem dL_law_801 : decode cL_law 801 = .ok (.aload_n 0, 1) := by decide +kernel
theorem dL_law_802 : decode cL_law 802 = .ok (.iload_n 3, 1) := by decide +kernel
theorem dL_law_803 : decode cL_law 803 = .ok (.iconst 3, 1) := by decide +kernel
theorem dL_law_804 : decode cL_law 804 = .ok (.iadd, 1) := by decide +kernel
theorem dL_law_805 : decode cL_law 805 = .ok (.iaload, 1) := by decide +kernel
theorem dL_law_806 : decode cL_law 806 = .ok (.aload_n 0, 1) := by decide +kernel
theorem dL_law_807 : decode cL_law 807 = .ok (.iload_n 3, 1) := by decide +kernel
theorem dL_law_808 : decode cL_law 808 = .ok (.iconst 4, 1) := by decide +kernel
theorem dL_law_809 : decode cL_law 809 = .ok (.iadd, 1) := by decide +kernel
theorem dL_law_810 : decode cL_law 810 = .ok (.iaload, 1) := by decide +kernel
theorem dL_law_811 : decode cL_law 811 = .ok (.invokevirtual 96, 3) := by decide +kernel
theorem dL_law_814 : decode cL_law 814 = .ok (.lcmp, 1) := by decide +kernel
theorem dL_law_815 : decode cL_law 815 = .ok (.ifCond .eq 696, 3) := by decide +kernel
theorem dL_law_818 : decode cL_law 818 = .ok (.iconst 0, 1) := by decide +kernel
theorem dL_law_819 : decode cL_law 819 = .ok (.ireturn, 1) := by decide +kernel
theorem dL_law_820 : decode cL_law 820 = .ok (.aload_n 1, 1) := by decide +kernel
theorem dL_law_821 : decode cL_law 821 = .ok (.aload_n 0, 1) := by decide +kernel
theorem dL_law_822 : decode cL_law 822 = .ok (.iload_n 3, 1) := by decide +kernel
theorem dL_law_823 : decode cL_law 823 = .ok (.iconst 1, 1) := by decide +kernel
theorem dL_law_824 : decode cL_law 824 = .ok (.iadd, 1) := by decide +kernel
theorem dL_law_825 : decode cL_law 825 = .ok (.iaload, 1) := by decide +kernel
theorem dL_law_826 : decode cL_law 826 = .ok (.invokevirtual 97, 3) := by decide +kernel
theorem dL_law_829 : decode cL_law 829 = .ok (.aload_n 2, 1) := by decide +kernel
theorem dL_law_830 : decode cL_law 830 = .ok (.aload_n 0, 1) := by decide +kernel
theorem dL_law_831 : decode cL_law 831 = .ok (.iload_n 3, 1) := by decide +kernel
theorem dL_law_832 : decode cL_law 832 = .ok (.iconst 1, 1) := by decide +kernel
theorem dL_law_833 : decode cL_law 833 = .ok (.iadd, 1) := by decide +kernel
theorem dL_law_834 : decode cL_law 834 = .ok (.iaload, 1) := by decide +kernel
theorem dL_law_835 : decode cL_law 835 = .ok (.invokevirtual 101, 3) := by decide +kernel
theorem dL_law_838 : decode cL_law 838 = .ok (.lcmp, 1) := by decide +kernel
theorem dL_law_839 : decode cL_law 839 = .ok (.ifCond .eq 672, 3) := by decide +kernel
theorem dL_law_842 : decode cL_law 842 = .ok (.iconst 0, 1) := by decide +kernel
theorem dL_law_843 : decode cL_law 843 = .ok (.ireturn, 1) := by decide +kernel
theorem dL_law_844 : decode cL_law 844 = .ok (.aload_n 1, 1) := by decide +kernel
theorem dL_law_845 : decode cL_law 845 = .ok (.aload_n 0, 1) := by decide +kernel
theorem dL_law_846 : decode cL_law 846 = .ok (.iload_n 3, 1) := by decide +kernel
theorem dL_law_847 : decode cL_law 847 = .ok (.iconst 1, 1) := by decide +kernel
theorem dL_law_848 : decode cL_law 848 = .ok (.iadd, 1) := by decide +kernel
theorem dL_law_849 : decode cL_law 849 = .ok (.iaload, 1) := by decide +kernel
theorem dL_law_850 : decode cL_law 850 = .ok (.invokevirtual 102, 3) := by decide +kernel
theorem dL_law_853 : decode cL_law 853 = .ok (.aload_n 2, 1) := by decide +kernel
theorem dL_law_854 : decode cL_law 854 = .ok (.aload_n 0, 1) := by decide +kernel
theorem dL_law_855 : decode cL_law 855 = .ok (.iload_n 3, 1) := by decide +kernel
theorem dL_law_856 : decode cL_law 856 = .ok (.iconst 1, 1) := by decide +kernel
theorem dL_law_857 : decode cL_law 857 = .ok (.iadd, 1) := by decide +kernel
theorem dL_law_858 : decode cL_law 858 = .ok (.iaload, 1) := by decide +kernel
theorem dL_law_859 : decode cL_law 859 = .ok (.invokevirtual 105, 3) := by decide +kernel
theorem dL_law_862 : decode cL_law 862 = .ok (.lcmp, 1) := by decide +kernel
theorem dL_law_863 : decode cL_law 863 = .ok (.ifCond .eq 648, 3) := by decide +kernel
theorem dL_law_866 : decode cL_law 866 = .ok (.iconst 0, 1) := by decide +kernel
theorem dL_law_867 : decode cL_law 867 = .ok (.ireturn, 1) := by decide +kernel
theorem dL_law_868 : decode cL_law 868 = .ok (.aload_n 1, 1) := by decide +kernel
theorem dL_law_869 : decode cL_law 869 = .ok (.invokevirtual 106, 3) := by decide +kernel
theorem dL_law_872 : decode cL_law 872 = .ok (.aload_n 2, 1) := by decide +kernel
theorem dL_law_873 : decode cL_law 873 = .ok (.invokevirtual 109, 3) := by decide +kernel
theorem dL_law_876 : decode cL_law 876 = .ok (.if_icmp .eq 635, 3) := by decide +kernel
theorem dL_law_879 : decode cL_law 879 = .ok (.iconst 0, 1) := by decide +kernel
theorem dL_law_880 : decode cL_law 880 = .ok (.ireturn, 1) := by decide +kernel
theorem dL_law_881 : decode cL_law 881 = .ok (.aload_n 1, 1) := by decide +kernel
theorem dL_law_882 : decode cL_law 882 = .ok (.aload_n 0, 1) := by decide +kernel
theorem dL_law_883 : decode cL_law 883 = .ok (.iload_n 3, 1) := by decide +kernel
theorem dL_law_884 : decode cL_law 884 = .ok (.iconst 1, 1) := by decide +kernel
theorem dL_law_885 : decode cL_law 885 = .ok (.iadd, 1) := by decide +kernel
theorem dL_law_886 : decode cL_law 886 = .ok (.iaload, 1) := by decide +kernel
theorem dL_law_887 : decode cL_law 887 = .ok (.aload_n 0, 1) := by decide +kernel
theorem dL_law_888 : decode cL_law 888 = .ok (.iload_n 3, 1) := by decide +kernel
theorem dL_law_889 : decode cL_law 889 = .ok (.iconst 2, 1) := by decide +kernel
theorem dL_law_890 : decode cL_law 890 = .ok (.iadd, 1) := by decide +kernel
theorem dL_law_891 : decode cL_law 891 = .ok (.iaload, 1) := by decide +kernel
theorem dL_law_892 : decode cL_law 892 = .ok (.invokevirtual 110, 3) := by decide +kernel
theorem dL_law_895 : decode cL_law 895 = .ok (.aload_n 2, 1) := by decide +kernel
theorem dL_law_896 : decode cL_law 896 = .ok (.aload_n 0, 1) := by decide +kernel
theorem dL_law_897 : decode cL_law 897 = .ok (.iload_n 3, 1) := by decide +kernel
theorem dL_law_898 : decode cL_law 898 = .ok (.iconst 1, 1) := by decide +kernel
theorem dL_law_899 : decode cL_law 899 = .ok (.iadd, 1) := by decide +kernel
theorem dL_law_900 : decode cL_law 900 = .ok (.iaload, 1) := by decide +kernel
theorem dL_law_901 : decode cL_law 901 = .ok (.aload_n 0, 1) := by decide +kernel
theorem dL_law_902 : decode cL_law 902 = .ok (.iload_n 3, 1) := by decide +kernel
theorem dL_law_903 : decode cL_law 903 = .ok (.iconst 2, 1) := by decide +kernel
theorem dL_law_904 : decode cL_law 904 = .ok (.iadd, 1) := by decide +kernel
theorem dL_law_905 : decode cL_law 905 = .ok (.iaload, 1) := by decide +kernel
theorem dL_law_906 : decode cL_law 906 = .ok (.invokevirtual 113, 3) := by decide +kernel
theorem dL_law_909 : decode cL_law 909 = .ok (.lcmp, 1) := by decide +kernel
theorem dL_law_910 : decode cL_law 910 = .ok (.ifCond .eq 601, 3) := by decide +kernel
theorem dL_law_913 : decode cL_law 913 = .ok (.iconst 0, 1) := by decide +kernel
theorem dL_law_914 : decode cL_law 914 = .ok (.ireturn, 1) := by decide +kernel
theorem dL_law_915 : decode cL_law 915 = .ok (.aload_n 1, 1) := by decide +kernel
theorem dL_law_916 : decode cL_law 916 = .ok (.aload_n 0, 1) := by decide +kernel
theorem dL_law_917 : decode cL_law 917 = .ok (.iload_n 3, 1) := by decide +kernel
theorem dL_law_918 : decode cL_law 918 = .ok (.iconst 1, 1) := by decide +kernel
theorem dL_law_919 : decode cL_law 919 = .ok (.iadd, 1) := by decide +kernel
theorem dL_law_920 : decode cL_law 920 = .ok (.iaload, 1) := by decide +kernel
theorem dL_law_921 : decode cL_law 921 = .ok (.invokevirtual 114, 3) := by decide +kernel
theorem dL_law_924 : decode cL_law 924 = .ok (.aload_n 2, 1) := by decide +kernel
theorem dL_law_925 : decode cL_law 925 = .ok (.aload_n 0, 1) := by decide +kernel
theorem dL_law_926 : decode cL_law 926 = .ok (.iload_n 3, 1) := by decide +kernel
theorem dL_law_927 : decode cL_law 927 = .ok (.iconst 1, 1) := by decide +kernel
theorem dL_law_928 : decode cL_law 928 = .ok (.iadd, 1) := by decide +kernel
theorem dL_law_929 : decode cL_law 929 = .ok (.iaload, 1) := by decide +kernel
theorem dL_law_930 : decode cL_law 930 = .ok (.invokevirtual 117, 3) := by decide +kernel
theorem dL_law_933 : decode cL_law 933 = .ok (.if_icmp .eq 578, 3) := by decide +kernel
theorem dL_law_936 : decode cL_law 936 = .ok (.iconst 0, 1) := by decide +kernel
theorem dL_law_937 : decode cL_law 937 = .ok (.ireturn, 1) := by decide +kernel
theorem dL_law_938 : decode cL_law 938 = .ok (.aload_n 1, 1) := by decide +kernel
theorem dL_law_939 : decode cL_law 939 = .ok (.aload_n 0, 1) := by decide +kernel
theorem dL_law_940 : decode cL_law 940 = .ok (.iload_n 3, 1) := by decide +kernel
theorem dL_law_941 : decode cL_law 941 = .ok (.iconst 1, 1) := by decide +kernel
theorem dL_law_942 : decode cL_law 942 = .ok (.iadd, 1) := by decide +kernel
theorem dL_law_943 : decode cL_law 943 = .ok (.iaload, 1) := by decide +kernel
theorem dL_law_944 : decode cL_law 944 = .ok (.aload_n 0, 1) := by decide +kernel
theorem dL_law_945 : decode cL_law 945 = .ok (.iload_n 3, 1) := by decide +kernel
theorem dL_law_946 : decode cL_law 946 = .ok (.iconst 2, 1) := by decide +kernel
theorem dL_law_947 : decode cL_law 947 = .ok (.iadd, 1) := by decide +kernel
theorem dL_law_948 : decode cL_law 948 = .ok (.iaload, 1) := by decide +kernel
theorem dL_law_949 : decode cL_law 949 = .ok (.invokevirtual 118, 3) := by decide +kernel
theorem dL_law_952 : decode cL_law 952 = .ok (.aload_n 2, 1) := by decide +kernel
theorem dL_law_953 : decode cL_law 953 = .ok (.aload_n 0, 1) := by decide +kernel
theorem dL_law_954 : decode cL_law 954 = .ok (.iload_n 3, 1) := by decide +kernel
theorem dL_law_955 : decode cL_law 955 = .ok (.iconst 1, 1) := by decide +kernel
theorem dL_law_956 : decode cL_law 956 = .ok (.iadd, 1) := by decide +kernel
theorem dL_law_957 : decode cL_law 957 = .ok (.iaload, 1) := by decide +kernel
theorem dL_law_958 : decode cL_law 958 = .ok (.aload_n 0, 1) := by decide +kernel
theorem dL_law_959 : decode cL_law 959 = .ok (.iload_n 3, 1) := by decide +kernel
theorem dL_law_960 : decode cL_law 960 = .ok (.iconst 2, 1) := by decide +kernel
theorem dL_law_961 : decode cL_law 961 = .ok (.iadd, 1) := by decide +kernel
theorem dL_law_962 : decode cL_law 962 = .ok (.iaload, 1) := by decide +kernel
theorem dL_law_963 : decode cL_law 963 = .ok (.invokevirtual 121, 3) := by decide +kernel
theorem dL_law_966 : decode cL_law 966 = .ok (.lcmp, 1) := by decide +kernel
theorem dL_law_967 : decode cL_law 967 = .ok (.ifCond .eq 544, 3) := by decide +kernel
theorem dL_law_970 : decode cL_law 970 = .ok (.iconst 0, 1) := by decide +kernel
theorem dL_law_971 : decode cL_law 971 = .ok (.ireturn, 1) := by decide +kernel
theorem dL_law_972 : decode cL_law 972 = .ok (.aload_n 1, 1) := by decide +kernel
theorem dL_law_973 : decode cL_law 973 = .ok (.invokevirtual 122, 3) := by decide +kernel
theorem dL_law_976 : decode cL_law 976 = .ok (.aload_n 2, 1) := by decide +kernel
theorem dL_law_977 : decode cL_law 977 = .ok (.invokevirtual 125, 3) := by decide +kernel
theorem dL_law_980 : decode cL_law 980 = .ok (.if_icmp .eq 531, 3) := by decide +kernel
theorem dL_law_983 : decode cL_law 983 = .ok (.iconst 0, 1) := by decide +kernel
theorem dL_law_984 : decode cL_law 984 = .ok (.ireturn, 1) := by decide +kernel
theorem dL_law_985 : decode cL_law 985 = .ok (.aload_n 1, 1) := by decide +kernel
theorem dL_law_986 : decode cL_law 986 = .ok (.aload_n 0, 1) := by decide +kernel
theorem dL_law_987 : decode cL_law 987 = .ok (.iload_n 3, 1) := by decide +kernel
theorem dL_law_988 : decode cL_law 988 = .ok (.iconst 1, 1) := by decide +kernel
theorem dL_law_989 : decode cL_law 989 = .ok (.iadd, 1) := by decide +kernel
theorem dL_law_990 : decode cL_law 990 = .ok (.iaload, 1) := by decide +kernel
theorem dL_law_991 : decode cL_law 991 = .ok (.aload_n 0, 1) := by decide +kernel
theorem dL_law_992 : decode cL_law 992 = .ok (.iload_n 3, 1) := by decide +kernel
theorem dL_law_993 : decode cL_law 993 = .ok (.iconst 2, 1) := by decide +kernel
theorem dL_law_994 : decode cL_law 994 = .ok (.iadd, 1) := by decide +kernel
theorem dL_law_995 : decode cL_law 995 = .ok (.iaload, 1) := by decide +kernel
theorem dL_law_996 : decode cL_law 996 = .ok (.invokevirtual 126, 3) := by decide +kernel
theorem dL_law_999 : decode cL_law 999 = .ok (.aload_n 2, 1) := by decide +kernel
theorem dL_law_1000 : decode cL_law 1000 = .ok (.aload_n 0, 1) := by decide +kernel
theorem dL_law_1001 : decode cL_law 1001 = .ok (.iload_n 3, 1) := by decide +kernel
theorem dL_law_1002 : decode cL_law 1002 = .ok (.iconst 1, 1) := by decide +kernel
theorem dL_law_1003 : decode cL_law 1003 = .ok (.iadd, 1) := by decide +kernel
theorem dL_law_1004 : decode cL_law 1004 = .ok (.iaload, 1) := by decide +kernel
theorem dL_law_1005 : decode cL_law 1005 = .ok (.aload_n 0, 1) := by decide +kernel
theorem dL_law_1006 : decode cL_law 1006 = .ok (.iload_n 3, 1) := by decide +kernel
theorem dL_law_1007 : decode cL_law 1007 = .ok (.iconst 2, 1) := by decide +kernel
theorem dL_law_1008 : decode cL_law 1008 = .ok (.iadd, 1) := by decide +kernel
theorem dL_law_1009 : decode cL_law 1009 = .ok (.iaload, 1) := by decide +kernel
theorem dL_law_1010 : decode cL_law 1010 = .ok (.invokevirtual 129, 3) := by decide +kernel
theorem dL_law_1013 : decode cL_law 1013 = .ok (.lcmp, 1) := by decide +kernel
theorem dL_law_1014 : decode cL_law 1014 = .ok (.ifCond .eq 497, 3) := by decide +kernel
theorem dL_law_1017 : decode cL_law 1017 = .ok (.iconst 0, 1) := by decide +kernel
theorem dL_law_1018 : decode cL_law 1018 = .ok (.ireturn, 1) := by decide +kernel
theorem dL_law_1019 : decode cL_law 1019 = .ok (.aload_n 1, 1) := by decide +kernel
theorem dL_law_1020 : decode cL_law 1020 = .ok (.invokevirtual 130, 3) := by decide +kernel
theorem dL_law_1023 : decode cL_law 1023 = .ok (.aload_n 2, 1) := by decide +kernel
theorem dL_law_1024 : decode cL_law 1024 = .ok (.invokevirtual 133, 3) := by decide +kernel
theorem dL_law_1027 : decode cL_law 1027 = .ok (.if_icmp .eq 484, 3) := by decide +kernel
theorem dL_law_1030 : decode cL_law 1030 = .ok (.iconst 0, 1) := by decide +kernel
theorem dL_law_1031 : decode cL_law 1031 = .ok (.ireturn, 1) := by decide +kernel
theorem dL_law_1032 : decode cL_law 1032 = .ok (.aload_n 1, 1) := by decide +kernel
theorem dL_law_1033 : decode cL_law 1033 = .ok (.aload_n 0, 1) := by decide +kernel
theorem dL_law_1034 : decode cL_law 1034 = .ok (.iload_n 3, 1) := by decide +kernel
theorem dL_law_1035 : decode cL_law 1035 = .ok (.iconst 1, 1) := by decide +kernel
theorem dL_law_1036 : decode cL_law 1036 = .ok (.iadd, 1) := by decide +kernel
theorem dL_law_1037 : decode cL_law 1037 = .ok (.iaload, 1) := by decide +kernel
theorem dL_law_1038 : decode cL_law 1038 = .ok (.aload_n 0, 1) := by decide +kernel
theorem dL_law_1039 : decode cL_law 1039 = .ok (.iload_n 3, 1) := by decide +kernel
theorem dL_law_1040 : decode cL_law 1040 = .ok (.iconst 2, 1) := by decide +kernel
theorem dL_law_1041 : decode cL_law 1041 = .ok (.iadd, 1) := by decide +kernel
theorem dL_law_1042 : decode cL_law 1042 = .ok (.iaload, 1) := by decide +kernel
theorem dL_law_1043 : decode cL_law 1043 = .ok (.invokevirtual 134, 3) := by decide +kernel
theorem dL_law_1046 : decode cL_law 1046 = .ok (.aload_n 2, 1) := by decide +kernel
theorem dL_law_1047 : decode cL_law 1047 = .ok (.aload_n 0, 1) := by decide +kernel
theorem dL_law_1048 : decode cL_law 1048 = .ok (.iload_n 3, 1) := by decide +kernel
theorem dL_law_1049 : decode cL_law 1049 = .ok (.iconst 1, 1) := by decide +kernel
theorem dL_law_1050 : decode cL_law 1050 = .ok (.iadd, 1) := by decide +kernel
theorem dL_law_1051 : decode cL_law 1051 = .ok (.iaload, 1) := by decide +kernel
theorem dL_law_1052 : decode cL_law 1052 = .ok (.aload_n 0, 1) := by decide +kernel
theorem dL_law_1053 : decode cL_law 1053 = .ok (.iload_n 3, 1) := by decide +kernel
theorem dL_law_1054 : decode cL_law 1054 = .ok (.iconst 2, 1) := by decide +kernel
theorem dL_law_1055 : decode cL_law 1055 = .ok (.iadd, 1) := by decide +kernel
theorem dL_law_1056 : decode cL_law 1056 = .ok (.iaload, 1) := by decide +kernel
theorem dL_law_1057 : decode cL_law 1057 = .ok (.invokevirtual 137, 3) := by decide +kernel
theorem dL_law_1060 : decode cL_law 1060 = .ok (.if_icmp .eq 451, 3) := by decide +kernel
theorem dL_law_1063 : decode cL_law 1063 = .ok (.iconst 0, 1) := by decide +kernel
theorem dL_law_1064 : decode cL_law 1064 = .ok (.ireturn, 1) := by decide +kernel
theorem dL_law_1065 : decode cL_law 1065 = .ok (.aload_n 1, 1) := by decide +kernel
theorem dL_law_1066 : decode cL_law 1066 = .ok (.aload_n 0, 1) := by decide +kernel
theorem dL_law_1067 : decode cL_law 1067 = .ok (.iload_n 3, 1) := by decide +kernel
theorem dL_law_1068 : decode cL_law 1068 = .ok (.iconst 1, 1) := by decide +kernel
theorem dL_law_1069 : decode cL_law 1069 = .ok (.iadd, 1) := by decide +kernel
theorem dL_law_1070 : decode cL_law 1070 = .ok (.iaload, 1) := by decide +kernel
theorem dL_law_1071 : decode cL_law 1071 = .ok (.aload_n 0, 1) := by decide +kernel
theorem dL_law_1072 : decode cL_law 1072 = .ok (.iload_n 3, 1) := by decide +kernel
theorem dL_law_1073 : decode cL_law 1073 = .ok (.iconst 2, 1) := by decide +kernel
theorem dL_law_1074 : decode cL_law 1074 = .ok (.iadd, 1) := by decide +kernel
theorem dL_law_1075 : decode cL_law 1075 = .ok (.iaload, 1) := by decide +kernel
theorem dL_law_1076 : decode cL_law 1076 = .ok (.invokevirtual 138, 3) := by decide +kernel
theorem dL_law_1079 : decode cL_law 1079 = .ok (.aload_n 2, 1) := by decide +kernel
theorem dL_law_1080 : decode cL_law 1080 = .ok (.aload_n 0, 1) := by decide +kernel
theorem dL_law_1081 : decode cL_law 1081 = .ok (.iload_n 3, 1) := by decide +kernel
theorem dL_law_1082 : decode cL_law 1082 = .ok (.iconst 1, 1) := by decide +kernel
theorem dL_law_1083 : decode cL_law 1083 = .ok (.iadd, 1) := by decide +kernel
theorem dL_law_1084 : decode cL_law 1084 = .ok (.iaload, 1) := by decide +kernel
theorem dL_law_1085 : decode cL_law 1085 = .ok (.aload_n 0, 1) := by decide +kernel
theorem dL_law_1086 : decode cL_law 1086 = .ok (.iload_n 3, 1) := by decide +kernel
theorem dL_law_1087 : decode cL_law 1087 = .ok (.iconst 2, 1) := by decide +kernel
theorem dL_law_1088 : decode cL_law 1088 = .ok (.iadd, 1) := by decide +kernel
theorem dL_law_1089 : decode cL_law 1089 = .ok (.iaload, 1) := by decide +kernel
theorem dL_law_1090 : decode cL_law 1090 = .ok (.invokevirtual 141, 3) := by decide +kernel
theorem dL_law_1093 : decode cL_law 1093 = .ok (.if_icmp .eq 418, 3) := by decide +kernel
theorem dL_law_1096 : decode cL_law 1096 = .ok (.iconst 0, 1) := by decide +kernel
theorem dL_law_1097 : decode cL_law 1097 = .ok (.ireturn, 1) := by decide +kernel
theorem dL_law_1098 : decode cL_law 1098 = .ok (.aload_n 1, 1) := by decide +kernel
theorem dL_law_1099 : decode cL_law 1099 = .ok (.aload_n 0, 1) := by decide +kernel
theorem dL_law_1100 : decode cL_law 1100 = .ok (.iload_n 3, 1) := by decide +kernel
theorem dL_law_1101 : decode cL_law 1101 = .ok (.iconst 1, 1) := by decide +kernel
theorem dL_law_1102 : decode cL_law 1102 = .ok (.iadd, 1) := by decide +kernel
theorem dL_law_1103 : decode cL_law 1103 = .ok (.iaload, 1) := by decide +kernel
theorem dL_law_1104 : decode cL_law 1104 = .ok (.aload_n 0, 1) := by decide +kernel
theorem dL_law_1105 : decode cL_law 1105 = .ok (.iload_n 3, 1) := by decide +kernel
theorem dL_law_1106 : decode cL_law 1106 = .ok (.iconst 2, 1) := by decide +kernel
theorem dL_law_1107 : decode cL_law 1107 = .ok (.iadd, 1) := by decide +kernel
theorem dL_law_1108 : decode cL_law 1108 = .ok (.iaload, 1) := by decide +kernel
theorem dL_law_1109 : decode cL_law 1109 = .ok (.invokevirtual 142, 3) := by decide +kernel
theorem dL_law_1112 : decode cL_law 1112 = .ok (.aload_n 2, 1) := by decide +kernel
theorem dL_law_1113 : decode cL_law 1113 = .ok (.aload_n 0, 1) := by decide +kernel
theorem dL_law_1114 : decode cL_law 1114 = .ok (.iload_n 3, 1) := by decide +kernel
theorem dL_law_1115 : decode cL_law 1115 = .ok (.iconst 1, 1) := by decide +kernel
theorem dL_law_1116 : decode cL_law 1116 = .ok (.iadd, 1) := by decide +kernel
theorem dL_law_1117 : decode cL_law 1117 = .ok (.iaload, 1) := by decide +kernel
theorem dL_law_1118 : decode cL_law 1118 = .ok (.aload_n 0, 1) := by decide +kernel
theorem dL_law_1119 : decode cL_law 1119 = .ok (.iload_n 3, 1) := by decide +kernel
theorem dL_law_1120 : decode cL_law 1120 = .ok (.iconst 2, 1) := by decide +kernel
theorem dL_law_1121 : decode cL_law 1121 = .ok (.iadd, 1) := by decide +kernel
theorem dL_law_1122 : decode cL_law 1122 = .ok (.iaload, 1) := by decide +kernel
theorem dL_law_1123 : decode cL_law 1123 = .ok (.invokevirtual 145, 3) := by decide +kernel
theorem dL_law_1126 : decode cL_law 1126 = .ok (.if_icmp .eq 385, 3) := by decide +kernel
theorem dL_law_1129 : decode cL_law 1129 = .ok (.iconst 0, 1) := by decide +kernel
theorem dL_law_1130 : decode cL_law 1130 = .ok (.ireturn, 1) := by decide +kernel
theorem dL_law_1131 : decode cL_law 1131 = .ok (.aload_n 1, 1) := by decide +kernel
theorem dL_law_1132 : decode cL_law 1132 = .ok (.aload_n 0, 1) := by decide +kernel
theorem dL_law_1133 : decode cL_law 1133 = .ok (.iload_n 3, 1) := by decide +kernel
theorem dL_law_1134 : decode cL_law 1134 = .ok (.iconst 1, 1) := by decide +kernel
theorem dL_law_1135 : decode cL_law 1135 = .ok (.iadd, 1) := by decide +kernel
theorem dL_law_1136 : decode cL_law 1136 = .ok (.iaload, 1) := by decide +kernel
theorem dL_law_1137 : decode cL_law 1137 = .ok (.invokevirtual 146, 3) := by decide +kernel
theorem dL_law_1140 : decode cL_law 1140 = .ok (.aload_n 2, 1) := by decide +kernel
theorem dL_law_1141 : decode cL_law 1141 = .ok (.aload_n 0, 1) := by decide +kernel
theorem dL_law_1142 : decode cL_law 1142 = .ok (.iload_n 3, 1) := by decide +kernel
theorem dL_law_1143 : decode cL_law 1143 = .ok (.iconst 1, 1) := by decide +kernel
theorem dL_law_1144 : decode cL_law 1144 = .ok (.iadd, 1) := by decide +kernel
theorem dL_law_1145 : decode cL_law 1145 = .ok (.iaload, 1) := by decide +kernel
end
section
theorem dL_law_1146 : decode cL_law 1146 = .ok (.invokevirtual 149, 3) := by decide +kernel
theorem dL_law_1149 : decode cL_law 1149 = .ok (.if_icmp .eq 362, 3) := by decide +kernel
theorem dL_law_1152 : decode cL_law 1152 = .ok (.iconst 0, 1) := by decide +kernel
theorem dL_law_1153 : decode cL_law 1153 = .ok (.ireturn, 1) := by decide +kernel
theorem dL_law_1154 : decode cL_law 1154 = .ok (.aload_n 1, 1) := by decide +kernel
theorem dL_law_1155 : decode cL_law 1155 = .ok (.aload_n 0, 1) := by decide +kernel
theorem dL_law_1156 : decode cL_law 1156 = .ok (.iload_n 3, 1) := by decide +kernel
theorem dL_law_1157 : decode cL_law 1157 = .ok (.iconst 1, 1) := by decide +kernel
theorem dL_law_1158 : decode cL_law 1158 = .ok (.iadd, 1) := by decide +kernel
theorem dL_law_1159 : decode cL_law 1159 = .ok (.iaload, 1) := by decide +kernel
theorem dL_law_1160 : decode cL_law 1160 = .ok (.aload_n 0, 1) := by decide +kernel
theorem dL_law_1161 : decode cL_law 1161 = .ok (.iload_n 3, 1) := by decide +kernel
theorem dL_law_1162 : decode cL_law 1162 = .ok (.iconst 2, 1) := by decide +kernel
theorem dL_law_1163 : decode cL_law 1163 = .ok (.iadd, 1) := by decide +kernel
theorem dL_law_1164 : decode cL_law 1164 = .ok (.iaload, 1) := by decide +kernel
theorem dL_law_1165 : decode cL_law 1165 = .ok (.invokevirtual 150, 3) := by decide +kernel
theorem dL_law_1168 : decode cL_law 1168 = .ok (.aload_n 2, 1) := by decide +kernel
theorem dL_law_1169 : decode cL_law 1169 = .ok (.aload_n 0, 1) := by decide +kernel
theorem dL_law_1170 : decode cL_law 1170 = .ok (.iload_n 3, 1) := by decide +kernel
theorem dL_law_1171 : decode cL_law 1171 = .ok (.iconst 1, 1) := by decide +kernel
theorem dL_law_1172 : decode cL_law 1172 = .ok (.iadd, 1) := by decide +kernel
theorem dL_law_1173 : decode cL_law 1173 = .ok (.iaload, 1) := by decide +kernel
theorem dL_law_1174 : decode cL_law 1174 = .ok (.aload_n 0, 1) := by decide +kernel
theorem dL_law_1175 : decode cL_law 1175 = .ok (.iload_n 3, 1) := by decide +kernel
theorem dL_law_1176 : decode cL_law 1176 = .ok (.iconst 2, 1) := by decide +kernel
theorem dL_law_1177 : decode cL_law 1177 = .ok (.iadd, 1) := by decide +kernel
theorem dL_law_1178 : decode cL_law 1178 = .ok (.iaload, 1) := by decide +kernel
theorem dL_law_1179 : decode cL_law 1179 = .ok (.invokevirtual 153, 3) := by decide +kernel
theorem dL_law_1182 : decode cL_law 1182 = .ok (.if_icmp .eq 329, 3) := by decide +kernel
theorem dL_law_1185 : decode cL_law 1185 = .ok (.iconst 0, 1) := by decide +kernel
theorem dL_law_1186 : decode cL_law 1186 = .ok (.ireturn, 1) := by decide +kernel
theorem dL_law_1187 : decode cL_law 1187 = .ok (.aload_n 1, 1) := by decide +kernel
theorem dL_law_1188 : decode cL_law 1188 = .ok (.aload_n 0, 1) := by decide +kernel
theorem dL_law_1189 : decode cL_law 1189 = .ok (.iload_n 3, 1) := by decide +kernel
theorem dL_law_1190 : decode cL_law 1190 = .ok (.iconst 1, 1) := by decide +kernel
theorem dL_law_1191 : decode cL_law 1191 = .ok (.iadd, 1) := by decide +kernel
theorem dL_law_1192 : decode cL_law 1192 = .ok (.iaload, 1) := by decide +kernel
theorem dL_law_1193 : decode cL_law 1193 = .ok (.aload_n 0, 1) := by decide +kernel
theorem dL_law_1194 : decode cL_law 1194 = .ok (.iload_n 3, 1) := by decide +kernel
theorem dL_law_1195 : decode cL_law 1195 = .ok (.iconst 2, 1) := by decide +kernel
theorem dL_law_1196 : decode cL_law 1196 = .ok (.iadd, 1) := by decide +kernel
theorem dL_law_1197 : decode cL_law 1197 = .ok (.iaload, 1) := by decide +kernel
theorem dL_law_1198 : decode cL_law 1198 = .ok (.aload_n 0, 1) := by decide +kernel
theorem dL_law_1199 : decode cL_law 1199 = .ok (.iload_n 3, 1) := by decide +kernel
theorem dL_law_1200 : decode cL_law 1200 = .ok (.iconst 3, 1) := by decide +kernel
theorem dL_law_1201 : decode cL_law 1201 = .ok (.iadd, 1) := by decide +kernel
theorem dL_law_1202 : decode cL_law 1202 = .ok (.iaload, 1) := by decide +kernel
theorem dL_law_1203 : decode cL_law 1203 = .ok (.invokevirtual 154, 3) := by decide +kernel
theorem dL_law_1206 : decode cL_law 1206 = .ok (.aload_n 2, 1) := by decide +kernel
theorem dL_law_1207 : decode cL_law 1207 = .ok (.aload_n 0, 1) := by decide +kernel
theorem dL_law_1208 : decode cL_law 1208 = .ok (.iload_n 3, 1) := by decide +kernel
theorem dL_law_1209 : decode cL_law 1209 = .ok (.iconst 1, 1) := by decide +kernel
theorem dL_law_1210 : decode cL_law 1210 = .ok (.iadd, 1) := by decide +kernel
theorem dL_law_1211 : decode cL_law 1211 = .ok (.iaload, 1) := by decide +kernel
theorem dL_law_1212 : decode cL_law 1212 = .ok (.aload_n 0, 1) := by decide +kernel
theorem dL_law_1213 : decode cL_law 1213 = .ok (.iload_n 3, 1) := by decide +kernel
theorem dL_law_1214 : decode cL_law 1214 = .ok (.iconst 2, 1) := by decide +kernel
theorem dL_law_1215 : decode cL_law 1215 = .ok (.iadd, 1) := by decide +kernel
theorem dL_law_1216 : decode cL_law 1216 = .ok (.iaload, 1) := by decide +kernel
theorem dL_law_1217 : decode cL_law 1217 = .ok (.aload_n 0, 1) := by decide +kernel
theorem dL_law_1218 : decode cL_law 1218 = .ok (.iload_n 3, 1) := by decide +kernel
theorem dL_law_1219 : decode cL_law 1219 = .ok (.iconst 3, 1) := by decide +kernel
theorem dL_law_1220 : decode cL_law 1220 = .ok (.iadd, 1) := by decide +kernel
theorem dL_law_1221 : decode cL_law 1221 = .ok (.iaload, 1) := by decide +kernel
theorem dL_law_1222 : decode cL_law 1222 = .ok (.invokevirtual 157, 3) := by decide +kernel
theorem dL_law_1225 : decode cL_law 1225 = .ok (.if_icmp .eq 286, 3) := by decide +kernel
theorem dL_law_1228 : decode cL_law 1228 = .ok (.iconst 0, 1) := by decide +kernel
theorem dL_law_1229 : decode cL_law 1229 = .ok (.ireturn, 1) := by decide +kernel
theorem dL_law_1230 : decode cL_law 1230 = .ok (.aload_n 1, 1) := by decide +kernel
theorem dL_law_1231 : decode cL_law 1231 = .ok (.aload_n 0, 1) := by decide +kernel
theorem dL_law_1232 : decode cL_law 1232 = .ok (.iload_n 3, 1) := by decide +kernel
theorem dL_law_1233 : decode cL_law 1233 = .ok (.iconst 1, 1) := by decide +kernel
theorem dL_law_1234 : decode cL_law 1234 = .ok (.iadd, 1) := by decide +kernel
theorem dL_law_1235 : decode cL_law 1235 = .ok (.iaload, 1) := by decide +kernel
theorem dL_law_1236 : decode cL_law 1236 = .ok (.invokevirtual 158, 3) := by decide +kernel
theorem dL_law_1239 : decode cL_law 1239 = .ok (.aload_n 2, 1) := by decide +kernel
theorem dL_law_1240 : decode cL_law 1240 = .ok (.aload_n 0, 1) := by decide +kernel
theorem dL_law_1241 : decode cL_law 1241 = .ok (.iload_n 3, 1) := by decide +kernel
theorem dL_law_1242 : decode cL_law 1242 = .ok (.iconst 1, 1) := by decide +kernel
theorem dL_law_1243 : decode cL_law 1243 = .ok (.iadd, 1) := by decide +kernel
theorem dL_law_1244 : decode cL_law 1244 = .ok (.iaload, 1) := by decide +kernel
theorem dL_law_1245 : decode cL_law 1245 = .ok (.invokevirtual 161, 3) := by decide +kernel
theorem dL_law_1248 : decode cL_law 1248 = .ok (.if_icmp .eq 263, 3) := by decide +kernel
theorem dL_law_1251 : decode cL_law 1251 = .ok (.iconst 0, 1) := by decide +kernel
theorem dL_law_1252 : decode cL_law 1252 = .ok (.ireturn, 1) := by decide +kernel
theorem dL_law_1253 : decode cL_law 1253 = .ok (.aload_n 1, 1) := by decide +kernel
theorem dL_law_1254 : decode cL_law 1254 = .ok (.aload_n 0, 1) := by decide +kernel
theorem dL_law_1255 : decode cL_law 1255 = .ok (.iload_n 3, 1) := by decide +kernel
theorem dL_law_1256 : decode cL_law 1256 = .ok (.iconst 1, 1) := by decide +kernel
theorem dL_law_1257 : decode cL_law 1257 = .ok (.iadd, 1) := by decide +kernel
theorem dL_law_1258 : decode cL_law 1258 = .ok (.iaload, 1) := by decide +kernel
theorem dL_law_1259 : decode cL_law 1259 = .ok (.invokevirtual 162, 3) := by decide +kernel
theorem dL_law_1262 : decode cL_law 1262 = .ok (.aload_n 2, 1) := by decide +kernel
theorem dL_law_1263 : decode cL_law 1263 = .ok (.aload_n 0, 1) := by decide +kernel
theorem dL_law_1264 : decode cL_law 1264 = .ok (.iload_n 3, 1) := by decide +kernel
theorem dL_law_1265 : decode cL_law 1265 = .ok (.iconst 1, 1) := by decide +kernel
theorem dL_law_1266 : decode cL_law 1266 = .ok (.iadd, 1) := by decide +kernel
theorem dL_law_1267 : decode cL_law 1267 = .ok (.iaload, 1) := by decide +kernel
theorem dL_law_1268 : decode cL_law 1268 = .ok (.invokevirtual 165, 3) := by decide +kernel
theorem dL_law_1271 : decode cL_law 1271 = .ok (.if_icmp .eq 240, 3) := by decide +kernel
theorem dL_law_1274 : decode cL_law 1274 = .ok (.iconst 0, 1) := by decide +kernel
theorem dL_law_1275 : decode cL_law 1275 = .ok (.ireturn, 1) := by decide +kernel
theorem dL_law_1276 : decode cL_law 1276 = .ok (.aload_n 1, 1) := by decide +kernel
theorem dL_law_1277 : decode cL_law 1277 = .ok (.aload_n 0, 1) := by decide +kernel
theorem dL_law_1278 : decode cL_law 1278 = .ok (.iload_n 3, 1) := by decide +kernel
theorem dL_law_1279 : decode cL_law 1279 = .ok (.iconst 1, 1) := by decide +kernel
theorem dL_law_1280 : decode cL_law 1280 = .ok (.iadd, 1) := by decide +kernel
theorem dL_law_1281 : decode cL_law 1281 = .ok (.iaload, 1) := by decide +kernel
theorem dL_law_1282 : decode cL_law 1282 = .ok (.aload_n 0, 1) := by decide +kernel
theorem dL_law_1283 : decode cL_law 1283 = .ok (.iload_n 3, 1) := by decide +kernel
theorem dL_law_1284 : decode cL_law 1284 = .ok (.iconst 2, 1) := by decide +kernel
theorem dL_law_1285 : decode cL_law 1285 = .ok (.iadd, 1) := by decide +kernel
theorem dL_law_1286 : decode cL_law 1286 = .ok (.iaload, 1) := by decide +kernel
theorem dL_law_1287 : decode cL_law 1287 = .ok (.aload_n 0, 1) := by decide +kernel
theorem dL_law_1288 : decode cL_law 1288 = .ok (.iload_n 3, 1) := by decide +kernel
theorem dL_law_1289 : decode cL_law 1289 = .ok (.iconst 3, 1) := by decide +kernel
theorem dL_law_1290 : decode cL_law 1290 = .ok (.iadd, 1) := by decide +kernel
theorem dL_law_1291 : decode cL_law 1291 = .ok (.iaload, 1) := by decide +kernel
theorem dL_law_1292 : decode cL_law 1292 = .ok (.invokevirtual 166, 3) := by decide +kernel
theorem dL_law_1295 : decode cL_law 1295 = .ok (.aload_n 2, 1) := by decide +kernel
theorem dL_law_1296 : decode cL_law 1296 = .ok (.aload_n 0, 1) := by decide +kernel
theorem dL_law_1297 : decode cL_law 1297 = .ok (.iload_n 3, 1) := by decide +kernel
theorem dL_law_1298 : decode cL_law 1298 = .ok (.iconst 1, 1) := by decide +kernel
theorem dL_law_1299 : decode cL_law 1299 = .ok (.iadd, 1) := by decide +kernel
theorem dL_law_1300 : decode cL_law 1300 = .ok (.iaload, 1) := by decide +kernel
theorem dL_law_1301 : decode cL_law 1301 = .ok (.aload_n 0, 1) := by decide +kernel
theorem dL_law_1302 : decode cL_law 1302 = .ok (.iload_n 3, 1) := by decide +kernel
theorem dL_law_1303 : decode cL_law 1303 = .ok (.iconst 2, 1) := by decide +kernel
theorem dL_law_1304 : decode cL_law 1304 = .ok (.iadd, 1) := by decide +kernel
theorem dL_law_1305 : decode cL_law 1305 = .ok (.iaload, 1) := by decide +kernel
theorem dL_law_1306 : decode cL_law 1306 = .ok (.aload_n 0, 1) := by decide +kernel
theorem dL_law_1307 : decode cL_law 1307 = .ok (.iload_n 3, 1) := by decide +kernel
theorem dL_law_1308 : decode cL_law 1308 = .ok (.iconst 3, 1) := by decide +kernel
theorem dL_law_1309 : decode cL_law 1309 = .ok (.iadd, 1) := by decide +kernel
theorem dL_law_1310 : decode cL_law 1310 = .ok (.iaload, 1) := by decide +kernel
theorem dL_law_1311 : decode cL_law 1311 = .ok (.invokevirtual 169, 3) := by decide +kernel
theorem dL_law_1314 : decode cL_law 1314 = .ok (.if_icmp .eq 197, 3) := by decide +kernel
theorem dL_law_1317 : decode cL_law 1317 = .ok (.iconst 0, 1) := by decide +kernel
theorem dL_law_1318 : decode cL_law 1318 = .ok (.ireturn, 1) := by decide +kernel
theorem dL_law_1319 : decode cL_law 1319 = .ok (.aload_n 1, 1) := by decide +kernel
theorem dL_law_1320 : decode cL_law 1320 = .ok (.aload_n 0, 1) := by decide +kernel
theorem dL_law_1321 : decode cL_law 1321 = .ok (.iload_n 3, 1) := by decide +kernel
theorem dL_law_1322 : decode cL_law 1322 = .ok (.iconst 1, 1) := by decide +kernel
theorem dL_law_1323 : decode cL_law 1323 = .ok (.iadd, 1) := by decide +kernel
theorem dL_law_1324 : decode cL_law 1324 = .ok (.iaload, 1) := by decide +kernel
theorem dL_law_1325 : decode cL_law 1325 = .ok (.aload_n 0, 1) := by decide +kernel
theorem dL_law_1326 : decode cL_law 1326 = .ok (.iload_n 3, 1) := by decide +kernel
theorem dL_law_1327 : decode cL_law 1327 = .ok (.iconst 2, 1) := by decide +kernel
theorem dL_law_1328 : decode cL_law 1328 = .ok (.iadd, 1) := by decide +kernel
theorem dL_law_1329 : decode cL_law 1329 = .ok (.iaload, 1) := by decide +kernel
theorem dL_law_1330 : decode cL_law 1330 = .ok (.aload_n 0, 1) := by decide +kernel
theorem dL_law_1331 : decode cL_law 1331 = .ok (.iload_n 3, 1) := by decide +kernel
theorem dL_law_1332 : decode cL_law 1332 = .ok (.iconst 3, 1) := by decide +kernel
theorem dL_law_1333 : decode cL_law 1333 = .ok (.iadd, 1) := by decide +kernel
theorem dL_law_1334 : decode cL_law 1334 = .ok (.iaload, 1) := by decide +kernel
theorem dL_law_1335 : decode cL_law 1335 = .ok (.invokevirtual 170, 3) := by decide +kernel
theorem dL_law_1338 : decode cL_law 1338 = .ok (.aload_n 2, 1) := by decide +kernel
theorem dL_law_1339 : decode cL_law 1339 = .ok (.aload_n 0, 1) := by decide +kernel
theorem dL_law_1340 : decode cL_law 1340 = .ok (.iload_n 3, 1) := by decide +kernel
theorem dL_law_1341 : decode cL_law 1341 = .ok (.iconst 1, 1) := by decide +kernel
theorem dL_law_1342 : decode cL_law 1342 = .ok (.iadd, 1) := by decide +kernel
theorem dL_law_1343 : decode cL_law 1343 = .ok (.iaload, 1) := by decide +kernel
theorem dL_law_1344 : decode cL_law 1344 = .ok (.aload_n 0, 1) := by decide +kernel
theorem dL_law_1345 : decode cL_law 1345 = .ok (.iload_n 3, 1) := by decide +kernel
theorem dL_law_1346 : decode cL_law 1346 = .ok (.iconst 2, 1) := by decide +kernel
theorem dL_law_1347 : decode cL_law 1347 = .ok (.iadd, 1) := by decide +kernel
theorem dL_law_1348 : decode cL_law 1348 = .ok (.iaload, 1) := by decide +kernel
theorem dL_law_1349 : decode cL_law 1349 = .ok (.aload_n 0, 1) := by decide +kernel
theorem dL_law_1350 : decode cL_law 1350 = .ok (.iload_n 3, 1) := by decide +kernel
theorem dL_law_1351 : decode cL_law 1351 = .ok (.iconst 3, 1) := by decide +kernel
theorem dL_law_1352 : decode cL_law 1352 = .ok (.iadd, 1) := by decide +kernel
theorem dL_law_1353 : decode cL_law 1353 = .ok (.iaload, 1) := by decide +kernel
theorem dL_law_1354 : decode cL_law 1354 = .ok (.invokevirtual 172, 3) := by decide +kernel
theorem dL_law_1357 : decode cL_law 1357 = .ok (.if_icmp .eq 154, 3) := by decide +kernel
theorem dL_law_1360 : decode cL_law 1360 = .ok (.iconst 0, 1) := by decide +kernel
theorem dL_law_1361 : decode cL_law 1361 = .ok (.ireturn, 1) := by decide +kernel
theorem dL_law_1362 : decode cL_law 1362 = .ok (.aload_n 1, 1) := by decide +kernel
theorem dL_law_1363 : decode cL_law 1363 = .ok (.aload_n 0, 1) := by decide +kernel
theorem dL_law_1364 : decode cL_law 1364 = .ok (.iload_n 3, 1) := by decide +kernel
theorem dL_law_1365 : decode cL_law 1365 = .ok (.iconst 1, 1) := by decide +kernel
theorem dL_law_1366 : decode cL_law 1366 = .ok (.iadd, 1) := by decide +kernel
theorem dL_law_1367 : decode cL_law 1367 = .ok (.iaload, 1) := by decide +kernel
theorem dL_law_1368 : decode cL_law 1368 = .ok (.aload_n 0, 1) := by decide +kernel
theorem dL_law_1369 : decode cL_law 1369 = .ok (.iload_n 3, 1) := by decide +kernel
theorem dL_law_1370 : decode cL_law 1370 = .ok (.iconst 2, 1) := by decide +kernel
theorem dL_law_1371 : decode cL_law 1371 = .ok (.iadd, 1) := by decide +kernel
theorem dL_law_1372 : decode cL_law 1372 = .ok (.iaload, 1) := by decide +kernel
theorem dL_law_1373 : decode cL_law 1373 = .ok (.aload_n 0, 1) := by decide +kernel
theorem dL_law_1374 : decode cL_law 1374 = .ok (.iload_n 3, 1) := by decide +kernel
theorem dL_law_1375 : decode cL_law 1375 = .ok (.iconst 3, 1) := by decide +kernel
theorem dL_law_1376 : decode cL_law 1376 = .ok (.iadd, 1) := by decide +kernel
theorem dL_law_1377 : decode cL_law 1377 = .ok (.iaload, 1) := by decide +kernel
theorem dL_law_1378 : decode cL_law 1378 = .ok (.aload_n 0, 1) := by decide +kernel
theorem dL_law_1379 : decode cL_law 1379 = .ok (.iload_n 3, 1) := by decide +kernel
theorem dL_law_1380 : decode cL_law 1380 = .ok (.iconst 4, 1) := by decide +kernel
theorem dL_law_1381 : decode cL_law 1381 = .ok (.iadd, 1) := by decide +kernel
theorem dL_law_1382 : decode cL_law 1382 = .ok (.iaload, 1) := by decide +kernel
theorem dL_law_1383 : decode cL_law 1383 = .ok (.aload_n 0, 1) := by decide +kernel
theorem dL_law_1384 : decode cL_law 1384 = .ok (.iload_n 3, 1) := by decide +kernel
theorem dL_law_1385 : decode cL_law 1385 = .ok (.iconst 5, 1) := by decide +kernel
theorem dL_law_1386 : decode cL_law 1386 = .ok (.iadd, 1) := by decide +kernel
theorem dL_law_1387 : decode cL_law 1387 = .ok (.iaload, 1) := by decide +kernel
theorem dL_law_1388 : decode cL_law 1388 = .ok (.invokevirtual 173, 3) := by decide +kernel
theorem dL_law_1391 : decode cL_law 1391 = .ok (.aload_n 2, 1) := by decide +kernel
theorem dL_law_1392 : decode cL_law 1392 = .ok (.aload_n 0, 1) := by decide +kernel
theorem dL_law_1393 : decode cL_law 1393 = .ok (.iload_n 3, 1) := by decide +kernel
theorem dL_law_1394 : decode cL_law 1394 = .ok (.iconst 1, 1) := by decide +kernel
theorem dL_law_1395 : decode cL_law 1395 = .ok (.iadd, 1) := by decide +kernel
theorem dL_law_1396 : decode cL_law 1396 = .ok (.iaload, 1) := by decide +kernel
theorem dL_law_1397 : decode cL_law 1397 = .ok (.aload_n 0, 1) := by decide +kernel
theorem dL_law_1398 : decode cL_law 1398 = .ok (.iload_n 3, 1) := by decide +kernel
theorem dL_law_1399 : decode cL_law 1399 = .ok (.iconst 2, 1) := by decide +kernel
theorem dL_law_1400 : decode cL_law 1400 = .ok (.iadd, 1) := by decide +kernel
theorem dL_law_1401 : decode cL_law 1401 = .ok (.iaload, 1) := by decide +kernel
theorem dL_law_1402 : decode cL_law 1402 = .ok (.aload_n 0, 1) := by decide +kernel
theorem dL_law_1403 : decode cL_law 1403 = .ok (.iload_n 3, 1) := by decide +kernel
theorem dL_law_1404 : decode cL_law 1404 = .ok (.iconst 3, 1) := by decide +kernel
theorem dL_law_1405 : decode cL_law 1405 = .ok (.iadd, 1) := by decide +kernel
theorem dL_law_1406 : decode cL_law 1406 = .ok (.iaload, 1) := by decide +kernel
theorem dL_law_1407 : decode cL_law 1407 = .ok (.aload_n 0, 1) := by decide +kernel
theorem dL_law_1408 : decode cL_law 1408 = .ok (.iload_n 3, 1) := by decide +kernel
theorem dL_law_1409 : decode cL_law 1409 = .ok (.iconst 4, 1) := by decide +kernel
theorem dL_law_1410 : decode cL_law 1410 = .ok (.iadd, 1) := by decide +kernel
theorem dL_law_1411 : decode cL_law 1411 = .ok (.iaload, 1) := by decide +kernel
theorem dL_law_1412 : decode cL_law 1412 = .ok (.aload_n 0, 1) := by decide +kernel
theorem dL_law_1413 : decode cL_law 1413 = .ok (.iload_n 3, 1) := by decide +kernel
theorem dL_law_1414 : decode cL_law 1414 = .ok (.iconst 5, 1) := by decide +kernel
theorem dL_law_1415 : decode cL_law 1415 = .ok (.iadd, 1) := by decide +kernel
theorem dL_law_1416 : decode cL_law 1416 = .ok (.iaload, 1) := by decide +kernel
theorem dL_law_1417 : decode cL_law 1417 = .ok (.invokevirtual 176, 3) := by decide +kernel
theorem dL_law_1420 : decode cL_law 1420 = .ok (.if_icmp .eq 91, 3) := by decide +kernel
theorem dL_law_1423 : decode cL_law 1423 = .ok (.iconst 0, 1) := by decide +kernel
theorem dL_law_1424 : decode cL_law 1424 = .ok (.ireturn, 1) := by decide +kernel
theorem dL_law_1425 : decode cL_law 1425 = .ok (.aload_n 1, 1) := by decide +kernel
theorem dL_law_1426 : decode cL_law 1426 = .ok (.aload_n 0, 1) := by decide +kernel
theorem dL_law_1427 : decode cL_law 1427 = .ok (.iload_n 3, 1) := by decide +kernel
theorem dL_law_1428 : decode cL_law 1428 = .ok (.iconst 1, 1) := by decide +kernel
theorem dL_law_1429 : decode cL_law 1429 = .ok (.iadd, 1) := by decide +kernel
theorem dL_law_1430 : decode cL_law 1430 = .ok (.iaload, 1) := by decide +kernel
theorem dL_law_1431 : decode cL_law 1431 = .ok (.aload_n 0, 1) := by decide +kernel
theorem dL_law_1432 : decode cL_law 1432 = .ok (.iload_n 3, 1) := by decide +kernel
theorem dL_law_1433 : decode cL_law 1433 = .ok (.iconst 2, 1) := by decide +kernel
theorem dL_law_1434 : decode cL_law 1434 = .ok (.iadd, 1) := by decide +kernel
theorem dL_law_1435 : decode cL_law 1435 = .ok (.iaload, 1) := by decide +kernel
theorem dL_law_1436 : decode cL_law 1436 = .ok (.aload_n 0, 1) := by decide +kernel
theorem dL_law_1437 : decode cL_law 1437 = .ok (.iload_n 3, 1) := by decide +kernel
theorem dL_law_1438 : decode cL_law 1438 = .ok (.iconst 3, 1) := by decide +kernel
theorem dL_law_1439 : decode cL_law 1439 = .ok (.iadd, 1) := by decide +kernel
theorem dL_law_1440 : decode cL_law 1440 = .ok (.iaload, 1) := by decide +kernel
theorem dL_law_1441 : decode cL_law 1441 = .ok (.aload_n 0, 1) := by decide +kernel
theorem dL_law_1442 : decode cL_law 1442 = .ok (.iload_n 3, 1) := by decide +kernel
theorem dL_law_1443 : decode cL_law 1443 = .ok (.iconst 4, 1) := by decide +kernel
theorem dL_law_1444 : decode cL_law 1444 = .ok (.iadd, 1) := by decide +kernel
theorem dL_law_1445 : decode cL_law 1445 = .ok (.iaload, 1) := by decide +kernel
theorem dL_law_1446 : decode cL_law 1446 = .ok (.invokevirtual 177, 3) := by decide +kernel
theorem dL_law_1449 : decode cL_law 1449 = .ok (.aload_n 2, 1) := by decide +kernel
theorem dL_law_1450 : decode cL_law 1450 = .ok (.aload_n 0, 1) := by decide +kernel
theorem dL_law_1451 : decode cL_law 1451 = .ok (.iload_n 3, 1) := by decide +kernel
theorem dL_law_1452 : decode cL_law 1452 = .ok (.iconst 1, 1) := by decide +kernel
theorem dL_law_1453 : decode cL_law 1453 = .ok (.iadd, 1) := by decide +kernel
theorem dL_law_1454 : decode cL_law 1454 = .ok (.iaload, 1) := by decide +kernel
theorem dL_law_1455 : decode cL_law 1455 = .ok (.aload_n 0, 1) := by decide +kernel
theorem dL_law_1456 : decode cL_law 1456 = .ok (.iload_n 3, 1) := by decide +kernel
theorem dL_law_1457 : decode cL_law 1457 = .ok (.iconst 2, 1) := by decide +kernel
theorem dL_law_1458 : decode cL_law 1458 = .ok (.iadd, 1) := by decide +kernel
theorem dL_law_1459 : decode cL_law 1459 = .ok (.iaload, 1) := by decide +kernel
theorem dL_law_1460 : decode cL_law 1460 = .ok (.aload_n 0, 1) := by decide +kernel
theorem dL_law_1461 : decode cL_law 1461 = .ok (.iload_n 3, 1) := by decide +kernel
theorem dL_law_1462 : decode cL_law 1462 = .ok (.iconst 3, 1) := by decide +kernel
theorem dL_law_1463 : decode cL_law 1463 = .ok (.iadd, 1) := by decide +kernel
theorem dL_law_1464 : decode cL_law 1464 = .ok (.iaload, 1) := by decide +kernel
theorem dL_law_1465 : decode cL_law 1465 = .ok (.aload_n 0, 1) := by decide +kernel
theorem dL_law_1466 : decode cL_law 1466 = .ok (.iload_n 3, 1) := by decide +kernel
theorem dL_law_1467 : decode cL_law 1467 = .ok (.iconst 4, 1) := by decide +kernel
theorem dL_law_1468 : decode cL_law 1468 = .ok (.iadd, 1) := by decide +kernel
theorem dL_law_1469 : decode cL_law 1469 = .ok (.iaload, 1) := by decide +kernel
theorem dL_law_1470 : decode cL_law 1470 = .ok (.invokevirtual 180, 3) := by decide +kernel
theorem dL_law_1473 : decode cL_law 1473 = .ok (.if_icmp .eq 38, 3) := by decide +kernel
theorem dL_law_1476 : decode cL_law 1476 = .ok (.iconst 0, 1) := by decide +kernel
theorem dL_law_1477 : decode cL_law 1477 = .ok (.ireturn, 1) := by decide +kernel
theorem dL_law_1478 : decode cL_law 1478 = .ok (.aload_n 1, 1) := by decide +kernel
theorem dL_law_1479 : decode cL_law 1479 = .ok (.aload_n 0, 1) := by decide +kernel
theorem dL_law_1480 : decode cL_law 1480 = .ok (.iload_n 3, 1) := by decide +kernel
theorem dL_law_1481 : decode cL_law 1481 = .ok (.iconst 1, 1) := by decide +kernel
theorem dL_law_1482 : decode cL_law 1482 = .ok (.iadd, 1) := by decide +kernel
theorem dL_law_1483 : decode cL_law 1483 = .ok (.iaload, 1) := by decide +kernel
theorem dL_law_1484 : decode cL_law 1484 = .ok (.aload_n 0, 1) := by decide +kernel
theorem dL_law_1485 : decode cL_law 1485 = .ok (.iload_n 3, 1) := by decide +kernel
theorem dL_law_1486 : decode cL_law 1486 = .ok (.iconst 2, 1) := by decide +kernel
theorem dL_law_1487 : decode cL_law 1487 = .ok (.iadd, 1) := by decide +kernel
theorem dL_law_1488 : decode cL_law 1488 = .ok (.iaload, 1) := by decide +kernel
theorem dL_law_1489 : decode cL_law 1489 = .ok (.invokevirtual 181, 3) := by decide +kernel
theorem dL_law_1492 : decode cL_law 1492 = .ok (.aload_n 2, 1) := by decide +kernel
theorem dL_law_1493 : decode cL_law 1493 = .ok (.aload_n 0, 1) := by decide +kernel
theorem dL_law_1494 : decode cL_law 1494 = .ok (.iload_n 3, 1) := by decide +kernel
theorem dL_law_1495 : decode cL_law 1495 = .ok (.iconst 1, 1) := by decide +kernel
theorem dL_law_1496 : decode cL_law 1496 = .ok (.iadd, 1) := by decide +kernel
theorem dL_law_1497 : decode cL_law 1497 = .ok (.iaload, 1) := by decide +kernel
theorem dL_law_1498 : decode cL_law 1498 = .ok (.aload_n 0, 1) := by decide +kernel
theorem dL_law_1499 : decode cL_law 1499 = .ok (.iload_n 3, 1) := by decide +kernel
theorem dL_law_1500 : decode cL_law 1500 = .ok (.iconst 2, 1) := by decide +kernel
theorem dL_law_1501 : decode cL_law 1501 = .ok (.iadd, 1) := by decide +kernel
theorem dL_law_1502 : decode cL_law 1502 = .ok (.iaload, 1) := by decide +kernel
theorem dL_law_1503 : decode cL_law 1503 = .ok (.invokevirtual 184, 3) := by decide +kernel
theorem dL_law_1506 : decode cL_law 1506 = .ok (.if_icmp .eq 5, 3) := by decide +kernel
theorem dL_law_1509 : decode cL_law 1509 = .ok (.iconst 0, 1) := by decide +kernel
theorem dL_law_1510 : decode cL_law 1510 = .ok (.ireturn, 1) := by decide +kernel
theorem dL_law_1511 : decode cL_law 1511 = .ok (.iinc 3 6, 3) := by decide +kernel
theorem dL_law_1514 : decode cL_law 1514 = .ok (.goto (-1486), 3) := by decide +kernel
theorem dL_law_1517 : decode cL_law 1517 = .ok (.iconst 1, 1) := by decide +kernel
theorem dL_law_1518 : decode cL_law 1518 = .ok (.ireturn, 1) := by decide +kernel
end
