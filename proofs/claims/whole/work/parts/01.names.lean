-- ===== PART A: goes FIRST, ahead of the names: the tables' words, and 'selects' of the private methods out of them =====
/-- a private method of a class that the tables say can be made, by its rows of tables_1 -/
def lw_okq (q : MethodName × Nat) : Prop := (q.1.cls ≠ "java/lang/invoke/MethodHandle" ∧ q.1.cls ≠ "java/lang/invoke/VarHandle") ∧ Cond.instantiable q.1.cls q.2 ∈ tables_1 ∧ Cond.privateMethod q.1 ∈ tables_1 ∧ Cond.instanceMethod q.1 ∈ tables_1
theorem lw_p0 : lw_okq (⟨"ThirdComer$VillageReader", "readClause", "(LThirdComer$Village;)Z"⟩, 1) := ⟨⟨by decide +kernel, by decide +kernel⟩, List.mem_of_getElem? (i := 61) (by decide +kernel), List.mem_of_getElem? (i := 490) (by decide +kernel), List.mem_of_getElem? (i := 491) (by decide +kernel)⟩
theorem lw_p1 : lw_okq (⟨"ThirdComer$VillageReader", "readItems", "(Ljava/lang/String;[I[I[II)Z"⟩, 1) := ⟨⟨by decide +kernel, by decide +kernel⟩, List.mem_of_getElem? (i := 61) (by decide +kernel), List.mem_of_getElem? (i := 512) (by decide +kernel), List.mem_of_getElem? (i := 513) (by decide +kernel)⟩
theorem lw_p2 : lw_okq (⟨"ThirdComer$Tape", "next", "()I"⟩, 4) := ⟨⟨by decide +kernel, by decide +kernel⟩, List.mem_of_getElem? (i := 35) (by decide +kernel), List.mem_of_getElem? (i := 619) (by decide +kernel), List.mem_of_getElem? (i := 620) (by decide +kernel)⟩
theorem lw_p3 : lw_okq (⟨"ThirdComer$WayReader", "readClause", "()Z"⟩, 2) := ⟨⟨by decide +kernel, by decide +kernel⟩, List.mem_of_getElem? (i := 71) (by decide +kernel), List.mem_of_getElem? (i := 658) (by decide +kernel), List.mem_of_getElem? (i := 659) (by decide +kernel)⟩
theorem lw_p4 : lw_okq (⟨"ThirdComer$WayReader", "readSum", "(I)Z"⟩, 2) := ⟨⟨by decide +kernel, by decide +kernel⟩, List.mem_of_getElem? (i := 71) (by decide +kernel), List.mem_of_getElem? (i := 667) (by decide +kernel), List.mem_of_getElem? (i := 668) (by decide +kernel)⟩
theorem lw_p5 : lw_okq (⟨"ThirdComer$WayReader", "readTerm", "(I)Z"⟩, 2) := ⟨⟨by decide +kernel, by decide +kernel⟩, List.mem_of_getElem? (i := 71) (by decide +kernel), List.mem_of_getElem? (i := 671) (by decide +kernel), List.mem_of_getElem? (i := 672) (by decide +kernel)⟩
theorem lw_p6 : lw_okq (⟨"ThirdComer$WayReader", "readAtom", "(I)Z"⟩, 2) := ⟨⟨by decide +kernel, by decide +kernel⟩, List.mem_of_getElem? (i := 71) (by decide +kernel), List.mem_of_getElem? (i := 675) (by decide +kernel), List.mem_of_getElem? (i := 676) (by decide +kernel)⟩
theorem lw_p7 : lw_okq (⟨"ThirdComer$WayReader", "openAt", "(I)Z"⟩, 2) := ⟨⟨by decide +kernel, by decide +kernel⟩, List.mem_of_getElem? (i := 71) (by decide +kernel), List.mem_of_getElem? (i := 679) (by decide +kernel), List.mem_of_getElem? (i := 680) (by decide +kernel)⟩
theorem lw_p8 : lw_okq (⟨"ThirdComer$WayReader", "readCondition", "(IZ)Z"⟩, 2) := ⟨⟨by decide +kernel, by decide +kernel⟩, List.mem_of_getElem? (i := 71) (by decide +kernel), List.mem_of_getElem? (i := 694) (by decide +kernel), List.mem_of_getElem? (i := 695) (by decide +kernel)⟩
theorem lw_p9 : lw_okq (⟨"ThirdComer$WayReader", "readTruth", "(IZ)Z"⟩, 2) := ⟨⟨by decide +kernel, by decide +kernel⟩, List.mem_of_getElem? (i := 71) (by decide +kernel), List.mem_of_getElem? (i := 698) (by decide +kernel), List.mem_of_getElem? (i := 699) (by decide +kernel)⟩
theorem lw_p10 : lw_okq (⟨"ThirdComer$WayReader", "readUnit", "(IZ)Z"⟩, 2) := ⟨⟨by decide +kernel, by decide +kernel⟩, List.mem_of_getElem? (i := 71) (by decide +kernel), List.mem_of_getElem? (i := 702) (by decide +kernel), List.mem_of_getElem? (i := 703) (by decide +kernel)⟩
theorem lw_p11 : lw_okq (⟨"ThirdComer", "isThing", "(II)Z"⟩, 13) := ⟨⟨by decide +kernel, by decide +kernel⟩, List.mem_of_getElem? (i := 27) (by decide +kernel), List.mem_of_getElem? (i := 723) (by decide +kernel), List.mem_of_getElem? (i := 724) (by decide +kernel)⟩
theorem lw_p12 : lw_okq (⟨"ThirdComer", "isVillage", "(I)Z"⟩, 13) := ⟨⟨by decide +kernel, by decide +kernel⟩, List.mem_of_getElem? (i := 27) (by decide +kernel), List.mem_of_getElem? (i := 727) (by decide +kernel), List.mem_of_getElem? (i := 728) (by decide +kernel)⟩
theorem lw_p13 : lw_okq (⟨"ThirdComer$Morning", "arrive", "()V"⟩, 18) := ⟨⟨by decide +kernel, by decide +kernel⟩, List.mem_of_getElem? (i := 135) (by decide +kernel), List.mem_of_getElem? (i := 795) (by decide +kernel), List.mem_of_getElem? (i := 796) (by decide +kernel)⟩
theorem lw_p14 : lw_okq (⟨"ThirdComer$Morning", "receive", "(I)V"⟩, 18) := ⟨⟨by decide +kernel, by decide +kernel⟩, List.mem_of_getElem? (i := 135) (by decide +kernel), List.mem_of_getElem? (i := 812) (by decide +kernel), List.mem_of_getElem? (i := 813) (by decide +kernel)⟩
theorem lw_p15 : lw_okq (⟨"ThirdComer$Morning", "decide", "(LThirdComer$Customs;)V"⟩, 18) := ⟨⟨by decide +kernel, by decide +kernel⟩, List.mem_of_getElem? (i := 135) (by decide +kernel), List.mem_of_getElem? (i := 820) (by decide +kernel), List.mem_of_getElem? (i := 821) (by decide +kernel)⟩
def lw_privs_1 : List (MethodName × Nat) := [(⟨"ThirdComer$VillageReader", "readClause", "(LThirdComer$Village;)Z"⟩, 1), (⟨"ThirdComer$VillageReader", "readItems", "(Ljava/lang/String;[I[I[II)Z"⟩, 1), (⟨"ThirdComer$Tape", "next", "()I"⟩, 4), (⟨"ThirdComer$WayReader", "readClause", "()Z"⟩, 2), (⟨"ThirdComer$WayReader", "readSum", "(I)Z"⟩, 2), (⟨"ThirdComer$WayReader", "readTerm", "(I)Z"⟩, 2), (⟨"ThirdComer$WayReader", "readAtom", "(I)Z"⟩, 2), (⟨"ThirdComer$WayReader", "openAt", "(I)Z"⟩, 2), (⟨"ThirdComer$WayReader", "readCondition", "(IZ)Z"⟩, 2), (⟨"ThirdComer$WayReader", "readTruth", "(IZ)Z"⟩, 2), (⟨"ThirdComer$WayReader", "readUnit", "(IZ)Z"⟩, 2), (⟨"ThirdComer", "isThing", "(II)Z"⟩, 13), (⟨"ThirdComer", "isVillage", "(I)Z"⟩, 13), (⟨"ThirdComer$Morning", "arrive", "()V"⟩, 18), (⟨"ThirdComer$Morning", "receive", "(I)V"⟩, 18), (⟨"ThirdComer$Morning", "decide", "(LThirdComer$Customs;)V"⟩, 18)]
theorem lw_r1 : ∀ q ∈ lw_privs_1, lw_okq q := List.forall_mem_cons.mpr ⟨lw_p0, List.forall_mem_cons.mpr ⟨lw_p1, List.forall_mem_cons.mpr ⟨lw_p2, List.forall_mem_cons.mpr ⟨lw_p3, List.forall_mem_cons.mpr ⟨lw_p4, List.forall_mem_cons.mpr ⟨lw_p5, List.forall_mem_cons.mpr ⟨lw_p6, List.forall_mem_cons.mpr ⟨lw_p7, List.forall_mem_cons.mpr ⟨lw_p8, List.forall_mem_cons.mpr ⟨lw_p9, List.forall_mem_cons.mpr ⟨lw_p10, List.forall_mem_cons.mpr ⟨lw_p11, List.forall_mem_cons.mpr ⟨lw_p12, List.forall_mem_cons.mpr ⟨lw_p13, List.forall_mem_cons.mpr ⟨lw_p14, List.forall_mem_cons.mpr ⟨lw_p15, fun _ h => absurd h List.not_mem_nil⟩⟩⟩⟩⟩⟩⟩⟩⟩⟩⟩⟩⟩⟩⟩⟩
theorem lw_p16 : lw_okq (⟨"ThirdComer$Morning", "goesUnasked", "(II)Z"⟩, 18) := ⟨⟨by decide +kernel, by decide +kernel⟩, List.mem_of_getElem? (i := 135) (by decide +kernel), List.mem_of_getElem? (i := 824) (by decide +kernel), List.mem_of_getElem? (i := 825) (by decide +kernel)⟩
theorem lw_p17 : lw_okq (⟨"ThirdComer$Morning", "spell", "(I[I)V"⟩, 18) := ⟨⟨by decide +kernel, by decide +kernel⟩, List.mem_of_getElem? (i := 135) (by decide +kernel), List.mem_of_getElem? (i := 828) (by decide +kernel), List.mem_of_getElem? (i := 829) (by decide +kernel)⟩
theorem lw_p18 : lw_okq (⟨"ThirdComer$Morning", "drawOfTen", "()I"⟩, 18) := ⟨⟨by decide +kernel, by decide +kernel⟩, List.mem_of_getElem? (i := 135) (by decide +kernel), List.mem_of_getElem? (i := 855) (by decide +kernel), List.mem_of_getElem? (i := 856) (by decide +kernel)⟩
theorem lw_p19 : lw_okq (⟨"ThirdComer$Morning", "send", "(II)V"⟩, 18) := ⟨⟨by decide +kernel, by decide +kernel⟩, List.mem_of_getElem? (i := 135) (by decide +kernel), List.mem_of_getElem? (i := 862) (by decide +kernel), List.mem_of_getElem? (i := 863) (by decide +kernel)⟩
theorem lw_p20 : lw_okq (⟨"ThirdComer", "isPerson", "(I)Z"⟩, 13) := ⟨⟨by decide +kernel, by decide +kernel⟩, List.mem_of_getElem? (i := 27) (by decide +kernel), List.mem_of_getElem? (i := 870) (by decide +kernel), List.mem_of_getElem? (i := 871) (by decide +kernel)⟩
theorem lw_p21 : lw_okq (⟨"ThirdComer", "runPlain", "(I)V"⟩, 13) := ⟨⟨by decide +kernel, by decide +kernel⟩, List.mem_of_getElem? (i := 27) (by decide +kernel), List.mem_of_getElem? (i := 910) (by decide +kernel), List.mem_of_getElem? (i := 911) (by decide +kernel)⟩
theorem lw_p22 : lw_okq (⟨"ThirdComer$Tally", "note", "(I)V"⟩, 8) := ⟨⟨by decide +kernel, by decide +kernel⟩, List.mem_of_getElem? (i := 215) (by decide +kernel), List.mem_of_getElem? (i := 927) (by decide +kernel), List.mem_of_getElem? (i := 928) (by decide +kernel)⟩
theorem lw_p23 : lw_okq (⟨"ThirdComer", "lateBy", "(II)I"⟩, 13) := ⟨⟨by decide +kernel, by decide +kernel⟩, List.mem_of_getElem? (i := 27) (by decide +kernel), List.mem_of_getElem? (i := 945) (by decide +kernel), List.mem_of_getElem? (i := 946) (by decide +kernel)⟩
theorem lw_p24 : lw_okq (⟨"ThirdComer", "isPair", "(II)Z"⟩, 13) := ⟨⟨by decide +kernel, by decide +kernel⟩, List.mem_of_getElem? (i := 27) (by decide +kernel), List.mem_of_getElem? (i := 965) (by decide +kernel), List.mem_of_getElem? (i := 966) (by decide +kernel)⟩
theorem lw_p25 : lw_okq (⟨"ThirdComer", "runSent", "(II)V"⟩, 13) := ⟨⟨by decide +kernel, by decide +kernel⟩, List.mem_of_getElem? (i := 27) (by decide +kernel), List.mem_of_getElem? (i := 969) (by decide +kernel), List.mem_of_getElem? (i := 970) (by decide +kernel)⟩
theorem lw_p26 : lw_okq (⟨"ThirdComer", "isSortOfMorning", "(I)Z"⟩, 13) := ⟨⟨by decide +kernel, by decide +kernel⟩, List.mem_of_getElem? (i := 27) (by decide +kernel), List.mem_of_getElem? (i := 982) (by decide +kernel), List.mem_of_getElem? (i := 983) (by decide +kernel)⟩
theorem lw_p27 : lw_okq (⟨"ThirdComer", "lateLooking", "(II)I"⟩, 13) := ⟨⟨by decide +kernel, by decide +kernel⟩, List.mem_of_getElem? (i := 27) (by decide +kernel), List.mem_of_getElem? (i := 1010) (by decide +kernel), List.mem_of_getElem? (i := 1011) (by decide +kernel)⟩
theorem lw_p28 : lw_okq (⟨"ThirdComer$Row", "follow", "(I[II)V"⟩, 18) := ⟨⟨by decide +kernel, by decide +kernel⟩, List.mem_of_getElem? (i := 253) (by decide +kernel), List.mem_of_getElem? (i := 1066) (by decide +kernel), List.mem_of_getElem? (i := 1067) (by decide +kernel)⟩
theorem lw_p29 : lw_okq (⟨"ThirdComer$Row", "goneByNow", "()J"⟩, 18) := ⟨⟨by decide +kernel, by decide +kernel⟩, List.mem_of_getElem? (i := 253) (by decide +kernel), List.mem_of_getElem? (i := 1074) (by decide +kernel), List.mem_of_getElem? (i := 1075) (by decide +kernel)⟩
theorem lw_p30 : lw_okq (⟨"ThirdComer$Row", "goOn", "(III)V"⟩, 18) := ⟨⟨by decide +kernel, by decide +kernel⟩, List.mem_of_getElem? (i := 253) (by decide +kernel), List.mem_of_getElem? (i := 1078) (by decide +kernel), List.mem_of_getElem? (i := 1079) (by decide +kernel)⟩
theorem lw_p31 : lw_okq (⟨"ThirdComer$Row", "weight", "(III)J"⟩, 18) := ⟨⟨by decide +kernel, by decide +kernel⟩, List.mem_of_getElem? (i := 253) (by decide +kernel), List.mem_of_getElem? (i := 1082) (by decide +kernel), List.mem_of_getElem? (i := 1083) (by decide +kernel)⟩
def lw_privs_2 : List (MethodName × Nat) := [(⟨"ThirdComer$Morning", "goesUnasked", "(II)Z"⟩, 18), (⟨"ThirdComer$Morning", "spell", "(I[I)V"⟩, 18), (⟨"ThirdComer$Morning", "drawOfTen", "()I"⟩, 18), (⟨"ThirdComer$Morning", "send", "(II)V"⟩, 18), (⟨"ThirdComer", "isPerson", "(I)Z"⟩, 13), (⟨"ThirdComer", "runPlain", "(I)V"⟩, 13), (⟨"ThirdComer$Tally", "note", "(I)V"⟩, 8), (⟨"ThirdComer", "lateBy", "(II)I"⟩, 13), (⟨"ThirdComer", "isPair", "(II)Z"⟩, 13), (⟨"ThirdComer", "runSent", "(II)V"⟩, 13), (⟨"ThirdComer", "isSortOfMorning", "(I)Z"⟩, 13), (⟨"ThirdComer", "lateLooking", "(II)I"⟩, 13), (⟨"ThirdComer$Row", "follow", "(I[II)V"⟩, 18), (⟨"ThirdComer$Row", "goneByNow", "()J"⟩, 18), (⟨"ThirdComer$Row", "goOn", "(III)V"⟩, 18), (⟨"ThirdComer$Row", "weight", "(III)J"⟩, 18)]
theorem lw_r2 : ∀ q ∈ lw_privs_2, lw_okq q := List.forall_mem_cons.mpr ⟨lw_p16, List.forall_mem_cons.mpr ⟨lw_p17, List.forall_mem_cons.mpr ⟨lw_p18, List.forall_mem_cons.mpr ⟨lw_p19, List.forall_mem_cons.mpr ⟨lw_p20, List.forall_mem_cons.mpr ⟨lw_p21, List.forall_mem_cons.mpr ⟨lw_p22, List.forall_mem_cons.mpr ⟨lw_p23, List.forall_mem_cons.mpr ⟨lw_p24, List.forall_mem_cons.mpr ⟨lw_p25, List.forall_mem_cons.mpr ⟨lw_p26, List.forall_mem_cons.mpr ⟨lw_p27, List.forall_mem_cons.mpr ⟨lw_p28, List.forall_mem_cons.mpr ⟨lw_p29, List.forall_mem_cons.mpr ⟨lw_p30, List.forall_mem_cons.mpr ⟨lw_p31, fun _ h => absurd h List.not_mem_nil⟩⟩⟩⟩⟩⟩⟩⟩⟩⟩⟩⟩⟩⟩⟩⟩
theorem lw_p32 : lw_okq (⟨"ThirdComer$Row", "takenUpTo", "(I)J"⟩, 18) := ⟨⟨by decide +kernel, by decide +kernel⟩, List.mem_of_getElem? (i := 253) (by decide +kernel), List.mem_of_getElem? (i := 1092) (by decide +kernel), List.mem_of_getElem? (i := 1093) (by decide +kernel)⟩
theorem lw_p33 : lw_okq (⟨"ThirdComer", "isTold", "(I)Z"⟩, 13) := ⟨⟨by decide +kernel, by decide +kernel⟩, List.mem_of_getElem? (i := 27) (by decide +kernel), List.mem_of_getElem? (i := 1167) (by decide +kernel), List.mem_of_getElem? (i := 1168) (by decide +kernel)⟩
theorem lw_p34 : lw_okq (⟨"ThirdComer$Told", "rankBesideOthers", "(I)V"⟩, 6) := ⟨⟨by decide +kernel, by decide +kernel⟩, List.mem_of_getElem? (i := 325) (by decide +kernel), List.mem_of_getElem? (i := 1179) (by decide +kernel), List.mem_of_getElem? (i := 1180) (by decide +kernel)⟩
theorem lw_p35 : lw_okq (⟨"ThirdComer$Told", "gainBy", "(II)I"⟩, 6) := ⟨⟨by decide +kernel, by decide +kernel⟩, List.mem_of_getElem? (i := 325) (by decide +kernel), List.mem_of_getElem? (i := 1188) (by decide +kernel), List.mem_of_getElem? (i := 1189) (by decide +kernel)⟩
theorem lw_p36 : lw_okq (⟨"ThirdComer$Told", "hasBy", "(I)Z"⟩, 6) := ⟨⟨by decide +kernel, by decide +kernel⟩, List.mem_of_getElem? (i := 325) (by decide +kernel), List.mem_of_getElem? (i := 1193) (by decide +kernel), List.mem_of_getElem? (i := 1194) (by decide +kernel)⟩
theorem lw_p37 : lw_okq (⟨"ThirdComer$Told", "bestBesideOthers", "(I)I"⟩, 6) := ⟨⟨by decide +kernel, by decide +kernel⟩, List.mem_of_getElem? (i := 325) (by decide +kernel), List.mem_of_getElem? (i := 1203) (by decide +kernel), List.mem_of_getElem? (i := 1204) (by decide +kernel)⟩
theorem lw_p38 : lw_okq (⟨"ThirdComer$Tour", "visit", "(LThirdComer$Village;II)V"⟩, 5) := ⟨⟨by decide +kernel, by decide +kernel⟩, List.mem_of_getElem? (i := 354) (by decide +kernel), List.mem_of_getElem? (i := 1240) (by decide +kernel), List.mem_of_getElem? (i := 1241) (by decide +kernel)⟩
theorem lw_p39 : lw_okq (⟨"ThirdComer$Tour", "rankOf", "(II)I"⟩, 5) := ⟨⟨by decide +kernel, by decide +kernel⟩, List.mem_of_getElem? (i := 354) (by decide +kernel), List.mem_of_getElem? (i := 1245) (by decide +kernel), List.mem_of_getElem? (i := 1246) (by decide +kernel)⟩
theorem lw_p40 : lw_okq (⟨"ThirdComer$Told", "exchange", "(II)V"⟩, 6) := ⟨⟨by decide +kernel, by decide +kernel⟩, List.mem_of_getElem? (i := 325) (by decide +kernel), List.mem_of_getElem? (i := 1258) (by decide +kernel), List.mem_of_getElem? (i := 1259) (by decide +kernel)⟩
theorem lw_p41 : lw_okq (⟨"java/lang/Throwable", "fillInStackTrace", "(I)Ljava/lang/Throwable;"⟩, 6) := ⟨⟨by decide +kernel, by decide +kernel⟩, List.mem_of_getElem? (i := 1322) (by decide +kernel), List.mem_of_getElem? (i := 1320) (by decide +kernel), List.mem_of_getElem? (i := 1321) (by decide +kernel)⟩
theorem lw_p42 : lw_okq (⟨"ThirdComerModel", "readVillage", "(I)I"⟩, 70) := ⟨⟨by decide +kernel, by decide +kernel⟩, List.mem_of_getElem? (i := 1359) (by decide +kernel), List.mem_of_getElem? (i := 1595) (by decide +kernel), List.mem_of_getElem? (i := 1596) (by decide +kernel)⟩
theorem lw_p43 : lw_okq (⟨"ThirdComerModel", "part", "(I)V"⟩, 70) := ⟨⟨by decide +kernel, by decide +kernel⟩, List.mem_of_getElem? (i := 1359) (by decide +kernel), List.mem_of_getElem? (i := 1599) (by decide +kernel), List.mem_of_getElem? (i := 1600) (by decide +kernel)⟩
theorem lw_p44 : lw_okq (⟨"ThirdComerModel", "look", "()I"⟩, 70) := ⟨⟨by decide +kernel, by decide +kernel⟩, List.mem_of_getElem? (i := 1359) (by decide +kernel), List.mem_of_getElem? (i := 1603) (by decide +kernel), List.mem_of_getElem? (i := 1604) (by decide +kernel)⟩
theorem lw_p45 : lw_okq (⟨"ThirdComerModel", "here", "()I"⟩, 70) := ⟨⟨by decide +kernel, by decide +kernel⟩, List.mem_of_getElem? (i := 1359) (by decide +kernel), List.mem_of_getElem? (i := 1607) (by decide +kernel), List.mem_of_getElem? (i := 1608) (by decide +kernel)⟩
theorem lw_p46 : lw_okq (⟨"ThirdComerModel", "bad", "()V"⟩, 70) := ⟨⟨by decide +kernel, by decide +kernel⟩, List.mem_of_getElem? (i := 1359) (by decide +kernel), List.mem_of_getElem? (i := 1611) (by decide +kernel), List.mem_of_getElem? (i := 1612) (by decide +kernel)⟩
theorem lw_p47 : lw_okq (⟨"ThirdComerModel", "number", "(II)I"⟩, 70) := ⟨⟨by decide +kernel, by decide +kernel⟩, List.mem_of_getElem? (i := 1359) (by decide +kernel), List.mem_of_getElem? (i := 1630) (by decide +kernel), List.mem_of_getElem? (i := 1631) (by decide +kernel)⟩
def lw_privs_3 : List (MethodName × Nat) := [(⟨"ThirdComer$Row", "takenUpTo", "(I)J"⟩, 18), (⟨"ThirdComer", "isTold", "(I)Z"⟩, 13), (⟨"ThirdComer$Told", "rankBesideOthers", "(I)V"⟩, 6), (⟨"ThirdComer$Told", "gainBy", "(II)I"⟩, 6), (⟨"ThirdComer$Told", "hasBy", "(I)Z"⟩, 6), (⟨"ThirdComer$Told", "bestBesideOthers", "(I)I"⟩, 6), (⟨"ThirdComer$Tour", "visit", "(LThirdComer$Village;II)V"⟩, 5), (⟨"ThirdComer$Tour", "rankOf", "(II)I"⟩, 5), (⟨"ThirdComer$Told", "exchange", "(II)V"⟩, 6), (⟨"java/lang/Throwable", "fillInStackTrace", "(I)Ljava/lang/Throwable;"⟩, 6), (⟨"ThirdComerModel", "readVillage", "(I)I"⟩, 70), (⟨"ThirdComerModel", "part", "(I)V"⟩, 70), (⟨"ThirdComerModel", "look", "()I"⟩, 70), (⟨"ThirdComerModel", "here", "()I"⟩, 70), (⟨"ThirdComerModel", "bad", "()V"⟩, 70), (⟨"ThirdComerModel", "number", "(II)I"⟩, 70)]
theorem lw_r3 : ∀ q ∈ lw_privs_3, lw_okq q := List.forall_mem_cons.mpr ⟨lw_p32, List.forall_mem_cons.mpr ⟨lw_p33, List.forall_mem_cons.mpr ⟨lw_p34, List.forall_mem_cons.mpr ⟨lw_p35, List.forall_mem_cons.mpr ⟨lw_p36, List.forall_mem_cons.mpr ⟨lw_p37, List.forall_mem_cons.mpr ⟨lw_p38, List.forall_mem_cons.mpr ⟨lw_p39, List.forall_mem_cons.mpr ⟨lw_p40, List.forall_mem_cons.mpr ⟨lw_p41, List.forall_mem_cons.mpr ⟨lw_p42, List.forall_mem_cons.mpr ⟨lw_p43, List.forall_mem_cons.mpr ⟨lw_p44, List.forall_mem_cons.mpr ⟨lw_p45, List.forall_mem_cons.mpr ⟨lw_p46, List.forall_mem_cons.mpr ⟨lw_p47, fun _ h => absurd h List.not_mem_nil⟩⟩⟩⟩⟩⟩⟩⟩⟩⟩⟩⟩⟩⟩⟩⟩
theorem lw_p48 : lw_okq (⟨"ThirdComerModel", "readWay", "(I)I"⟩, 70) := ⟨⟨by decide +kernel, by decide +kernel⟩, List.mem_of_getElem? (i := 1359) (by decide +kernel), List.mem_of_getElem? (i := 1640) (by decide +kernel), List.mem_of_getElem? (i := 1641) (by decide +kernel)⟩
theorem lw_p49 : lw_okq (⟨"ThirdComerModel", "open", "(I)V"⟩, 70) := ⟨⟨by decide +kernel, by decide +kernel⟩, List.mem_of_getElem? (i := 1359) (by decide +kernel), List.mem_of_getElem? (i := 1644) (by decide +kernel), List.mem_of_getElem? (i := 1645) (by decide +kernel)⟩
theorem lw_p50 : lw_okq (⟨"ThirdComerModel", "clause", "()V"⟩, 70) := ⟨⟨by decide +kernel, by decide +kernel⟩, List.mem_of_getElem? (i := 1359) (by decide +kernel), List.mem_of_getElem? (i := 1648) (by decide +kernel), List.mem_of_getElem? (i := 1649) (by decide +kernel)⟩
theorem lw_p51 : lw_okq (⟨"ThirdComerModel", "condition", "()V"⟩, 70) := ⟨⟨by decide +kernel, by decide +kernel⟩, List.mem_of_getElem? (i := 1359) (by decide +kernel), List.mem_of_getElem? (i := 1652) (by decide +kernel), List.mem_of_getElem? (i := 1653) (by decide +kernel)⟩
theorem lw_p52 : lw_okq (⟨"ThirdComerModel", "unit", "()V"⟩, 70) := ⟨⟨by decide +kernel, by decide +kernel⟩, List.mem_of_getElem? (i := 1359) (by decide +kernel), List.mem_of_getElem? (i := 1656) (by decide +kernel), List.mem_of_getElem? (i := 1657) (by decide +kernel)⟩
theorem lw_p53 : lw_okq (⟨"ThirdComerModel", "opens", "()V"⟩, 70) := ⟨⟨by decide +kernel, by decide +kernel⟩, List.mem_of_getElem? (i := 1359) (by decide +kernel), List.mem_of_getElem? (i := 1660) (by decide +kernel), List.mem_of_getElem? (i := 1661) (by decide +kernel)⟩
theorem lw_p54 : lw_okq (⟨"ThirdComerModel", "put", "(II)V"⟩, 70) := ⟨⟨by decide +kernel, by decide +kernel⟩, List.mem_of_getElem? (i := 1359) (by decide +kernel), List.mem_of_getElem? (i := 1664) (by decide +kernel), List.mem_of_getElem? (i := 1665) (by decide +kernel)⟩
theorem lw_p55 : lw_okq (⟨"ThirdComerModel", "closes", "(I)V"⟩, 70) := ⟨⟨by decide +kernel, by decide +kernel⟩, List.mem_of_getElem? (i := 1359) (by decide +kernel), List.mem_of_getElem? (i := 1668) (by decide +kernel), List.mem_of_getElem? (i := 1669) (by decide +kernel)⟩
theorem lw_p56 : lw_okq (⟨"ThirdComerModel", "sum", "()V"⟩, 70) := ⟨⟨by decide +kernel, by decide +kernel⟩, List.mem_of_getElem? (i := 1359) (by decide +kernel), List.mem_of_getElem? (i := 1672) (by decide +kernel), List.mem_of_getElem? (i := 1673) (by decide +kernel)⟩
theorem lw_p57 : lw_okq (⟨"ThirdComerModel", "term", "()V"⟩, 70) := ⟨⟨by decide +kernel, by decide +kernel⟩, List.mem_of_getElem? (i := 1359) (by decide +kernel), List.mem_of_getElem? (i := 1676) (by decide +kernel), List.mem_of_getElem? (i := 1677) (by decide +kernel)⟩
theorem lw_p58 : lw_okq (⟨"ThirdComerModel", "atom", "()V"⟩, 70) := ⟨⟨by decide +kernel, by decide +kernel⟩, List.mem_of_getElem? (i := 1359) (by decide +kernel), List.mem_of_getElem? (i := 1680) (by decide +kernel), List.mem_of_getElem? (i := 1681) (by decide +kernel)⟩
theorem lw_p59 : lw_okq (⟨"ThirdComerModel", "plainNumber", "()I"⟩, 70) := ⟨⟨by decide +kernel, by decide +kernel⟩, List.mem_of_getElem? (i := 1359) (by decide +kernel), List.mem_of_getElem? (i := 1684) (by decide +kernel), List.mem_of_getElem? (i := 1685) (by decide +kernel)⟩
theorem lw_p60 : lw_okq (⟨"ThirdComerModel", "compare", "()V"⟩, 70) := ⟨⟨by decide +kernel, by decide +kernel⟩, List.mem_of_getElem? (i := 1359) (by decide +kernel), List.mem_of_getElem? (i := 1691) (by decide +kernel), List.mem_of_getElem? (i := 1692) (by decide +kernel)⟩
theorem lw_p61 : lw_okq (⟨"ThirdComerModel", "goOnAnd", "()V"⟩, 70) := ⟨⟨by decide +kernel, by decide +kernel⟩, List.mem_of_getElem? (i := 1359) (by decide +kernel), List.mem_of_getElem? (i := 1698) (by decide +kernel), List.mem_of_getElem? (i := 1699) (by decide +kernel)⟩
theorem lw_p62 : lw_okq (⟨"ThirdComerModel", "goOnOr", "()V"⟩, 70) := ⟨⟨by decide +kernel, by decide +kernel⟩, List.mem_of_getElem? (i := 1359) (by decide +kernel), List.mem_of_getElem? (i := 1702) (by decide +kernel), List.mem_of_getElem? (i := 1703) (by decide +kernel)⟩
theorem lw_p63 : lw_okq (⟨"ThirdComerModel", "atEnd", "()I"⟩, 70) := ⟨⟨by decide +kernel, by decide +kernel⟩, List.mem_of_getElem? (i := 1359) (by decide +kernel), List.mem_of_getElem? (i := 1706) (by decide +kernel), List.mem_of_getElem? (i := 1707) (by decide +kernel)⟩
def lw_privs_4 : List (MethodName × Nat) := [(⟨"ThirdComerModel", "readWay", "(I)I"⟩, 70), (⟨"ThirdComerModel", "open", "(I)V"⟩, 70), (⟨"ThirdComerModel", "clause", "()V"⟩, 70), (⟨"ThirdComerModel", "condition", "()V"⟩, 70), (⟨"ThirdComerModel", "unit", "()V"⟩, 70), (⟨"ThirdComerModel", "opens", "()V"⟩, 70), (⟨"ThirdComerModel", "put", "(II)V"⟩, 70), (⟨"ThirdComerModel", "closes", "(I)V"⟩, 70), (⟨"ThirdComerModel", "sum", "()V"⟩, 70), (⟨"ThirdComerModel", "term", "()V"⟩, 70), (⟨"ThirdComerModel", "atom", "()V"⟩, 70), (⟨"ThirdComerModel", "plainNumber", "()I"⟩, 70), (⟨"ThirdComerModel", "compare", "()V"⟩, 70), (⟨"ThirdComerModel", "goOnAnd", "()V"⟩, 70), (⟨"ThirdComerModel", "goOnOr", "()V"⟩, 70), (⟨"ThirdComerModel", "atEnd", "()I"⟩, 70)]
theorem lw_r4 : ∀ q ∈ lw_privs_4, lw_okq q := List.forall_mem_cons.mpr ⟨lw_p48, List.forall_mem_cons.mpr ⟨lw_p49, List.forall_mem_cons.mpr ⟨lw_p50, List.forall_mem_cons.mpr ⟨lw_p51, List.forall_mem_cons.mpr ⟨lw_p52, List.forall_mem_cons.mpr ⟨lw_p53, List.forall_mem_cons.mpr ⟨lw_p54, List.forall_mem_cons.mpr ⟨lw_p55, List.forall_mem_cons.mpr ⟨lw_p56, List.forall_mem_cons.mpr ⟨lw_p57, List.forall_mem_cons.mpr ⟨lw_p58, List.forall_mem_cons.mpr ⟨lw_p59, List.forall_mem_cons.mpr ⟨lw_p60, List.forall_mem_cons.mpr ⟨lw_p61, List.forall_mem_cons.mpr ⟨lw_p62, List.forall_mem_cons.mpr ⟨lw_p63, fun _ h => absurd h List.not_mem_nil⟩⟩⟩⟩⟩⟩⟩⟩⟩⟩⟩⟩⟩⟩⟩⟩
theorem lw_p64 : lw_okq (⟨"ThirdComerModel", "isVillage", "(I)Z"⟩, 70) := ⟨⟨by decide +kernel, by decide +kernel⟩, List.mem_of_getElem? (i := 1359) (by decide +kernel), List.mem_of_getElem? (i := 1718) (by decide +kernel), List.mem_of_getElem? (i := 1719) (by decide +kernel)⟩
theorem lw_p65 : lw_okq (⟨"ThirdComerModel", "isThing", "(II)Z"⟩, 70) := ⟨⟨by decide +kernel, by decide +kernel⟩, List.mem_of_getElem? (i := 1359) (by decide +kernel), List.mem_of_getElem? (i := 1726) (by decide +kernel), List.mem_of_getElem? (i := 1727) (by decide +kernel)⟩
theorem lw_p66 : lw_okq (⟨"ThirdComerModel", "thingAt", "(III)I"⟩, 70) := ⟨⟨by decide +kernel, by decide +kernel⟩, List.mem_of_getElem? (i := 1359) (by decide +kernel), List.mem_of_getElem? (i := 1730) (by decide +kernel), List.mem_of_getElem? (i := 1731) (by decide +kernel)⟩
theorem lw_p67 : lw_okq (⟨"ThirdComerModel", "sortAt", "(III)I"⟩, 70) := ⟨⟨by decide +kernel, by decide +kernel⟩, List.mem_of_getElem? (i := 1359) (by decide +kernel), List.mem_of_getElem? (i := 1738) (by decide +kernel), List.mem_of_getElem? (i := 1739) (by decide +kernel)⟩
theorem lw_p68 : lw_okq (⟨"ThirdComerModel", "sortOf", "(II)I"⟩, 70) := ⟨⟨by decide +kernel, by decide +kernel⟩, List.mem_of_getElem? (i := 1359) (by decide +kernel), List.mem_of_getElem? (i := 1746) (by decide +kernel), List.mem_of_getElem? (i := 1747) (by decide +kernel)⟩
theorem lw_p69 : lw_okq (⟨"ThirdComerModel", "begin", "(J)V"⟩, 70) := ⟨⟨by decide +kernel, by decide +kernel⟩, List.mem_of_getElem? (i := 1359) (by decide +kernel), List.mem_of_getElem? (i := 1758) (by decide +kernel), List.mem_of_getElem? (i := 1759) (by decide +kernel)⟩
theorem lw_p70 : lw_okq (⟨"ThirdComerModel", "minuteOnce", "()Z"⟩, 70) := ⟨⟨by decide +kernel, by decide +kernel⟩, List.mem_of_getElem? (i := 1359) (by decide +kernel), List.mem_of_getElem? (i := 1766) (by decide +kernel), List.mem_of_getElem? (i := 1767) (by decide +kernel)⟩
theorem lw_p71 : lw_okq (⟨"ThirdComerModel", "many", "()I"⟩, 70) := ⟨⟨by decide +kernel, by decide +kernel⟩, List.mem_of_getElem? (i := 1359) (by decide +kernel), List.mem_of_getElem? (i := 1770) (by decide +kernel), List.mem_of_getElem? (i := 1771) (by decide +kernel)⟩
theorem lw_p72 : lw_okq (⟨"ThirdComerModel", "isOnWay", "(I)Z"⟩, 70) := ⟨⟨by decide +kernel, by decide +kernel⟩, List.mem_of_getElem? (i := 1359) (by decide +kernel), List.mem_of_getElem? (i := 1774) (by decide +kernel), List.mem_of_getElem? (i := 1775) (by decide +kernel)⟩
theorem lw_p73 : lw_okq (⟨"ThirdComerModel", "comes", "(I)V"⟩, 70) := ⟨⟨by decide +kernel, by decide +kernel⟩, List.mem_of_getElem? (i := 1359) (by decide +kernel), List.mem_of_getElem? (i := 1778) (by decide +kernel), List.mem_of_getElem? (i := 1779) (by decide +kernel)⟩
theorem lw_p74 : lw_okq (⟨"ThirdComerModel", "had", "()I"⟩, 70) := ⟨⟨by decide +kernel, by decide +kernel⟩, List.mem_of_getElem? (i := 1359) (by decide +kernel), List.mem_of_getElem? (i := 1782) (by decide +kernel), List.mem_of_getElem? (i := 1783) (by decide +kernel)⟩
theorem lw_p75 : lw_okq (⟨"ThirdComerModel", "places", "()I"⟩, 70) := ⟨⟨by decide +kernel, by decide +kernel⟩, List.mem_of_getElem? (i := 1359) (by decide +kernel), List.mem_of_getElem? (i := 1786) (by decide +kernel), List.mem_of_getElem? (i := 1787) (by decide +kernel)⟩
theorem lw_p76 : lw_okq (⟨"ThirdComerModel", "waiting", "(II)I"⟩, 70) := ⟨⟨by decide +kernel, by decide +kernel⟩, List.mem_of_getElem? (i := 1359) (by decide +kernel), List.mem_of_getElem? (i := 1792) (by decide +kernel), List.mem_of_getElem? (i := 1793) (by decide +kernel)⟩
theorem lw_p77 : lw_okq (⟨"ThirdComerModel", "isWaiting", "(I)Z"⟩, 70) := ⟨⟨by decide +kernel, by decide +kernel⟩, List.mem_of_getElem? (i := 1359) (by decide +kernel), List.mem_of_getElem? (i := 1796) (by decide +kernel), List.mem_of_getElem? (i := 1797) (by decide +kernel)⟩
theorem lw_p78 : lw_okq (⟨"ThirdComerModel", "onWay", "()I"⟩, 70) := ⟨⟨by decide +kernel, by decide +kernel⟩, List.mem_of_getElem? (i := 1359) (by decide +kernel), List.mem_of_getElem? (i := 1800) (by decide +kernel), List.mem_of_getElem? (i := 1801) (by decide +kernel)⟩
theorem lw_p79 : lw_okq (⟨"ThirdComerModel", "goesNow", "(I)Z"⟩, 70) := ⟨⟨by decide +kernel, by decide +kernel⟩, List.mem_of_getElem? (i := 1359) (by decide +kernel), List.mem_of_getElem? (i := 1804) (by decide +kernel), List.mem_of_getElem? (i := 1805) (by decide +kernel)⟩
def lw_privs_5 : List (MethodName × Nat) := [(⟨"ThirdComerModel", "isVillage", "(I)Z"⟩, 70), (⟨"ThirdComerModel", "isThing", "(II)Z"⟩, 70), (⟨"ThirdComerModel", "thingAt", "(III)I"⟩, 70), (⟨"ThirdComerModel", "sortAt", "(III)I"⟩, 70), (⟨"ThirdComerModel", "sortOf", "(II)I"⟩, 70), (⟨"ThirdComerModel", "begin", "(J)V"⟩, 70), (⟨"ThirdComerModel", "minuteOnce", "()Z"⟩, 70), (⟨"ThirdComerModel", "many", "()I"⟩, 70), (⟨"ThirdComerModel", "isOnWay", "(I)Z"⟩, 70), (⟨"ThirdComerModel", "comes", "(I)V"⟩, 70), (⟨"ThirdComerModel", "had", "()I"⟩, 70), (⟨"ThirdComerModel", "places", "()I"⟩, 70), (⟨"ThirdComerModel", "waiting", "(II)I"⟩, 70), (⟨"ThirdComerModel", "isWaiting", "(I)Z"⟩, 70), (⟨"ThirdComerModel", "onWay", "()I"⟩, 70), (⟨"ThirdComerModel", "goesNow", "(I)Z"⟩, 70)]
theorem lw_r5 : ∀ q ∈ lw_privs_5, lw_okq q := List.forall_mem_cons.mpr ⟨lw_p64, List.forall_mem_cons.mpr ⟨lw_p65, List.forall_mem_cons.mpr ⟨lw_p66, List.forall_mem_cons.mpr ⟨lw_p67, List.forall_mem_cons.mpr ⟨lw_p68, List.forall_mem_cons.mpr ⟨lw_p69, List.forall_mem_cons.mpr ⟨lw_p70, List.forall_mem_cons.mpr ⟨lw_p71, List.forall_mem_cons.mpr ⟨lw_p72, List.forall_mem_cons.mpr ⟨lw_p73, List.forall_mem_cons.mpr ⟨lw_p74, List.forall_mem_cons.mpr ⟨lw_p75, List.forall_mem_cons.mpr ⟨lw_p76, List.forall_mem_cons.mpr ⟨lw_p77, List.forall_mem_cons.mpr ⟨lw_p78, List.forall_mem_cons.mpr ⟨lw_p79, fun _ h => absurd h List.not_mem_nil⟩⟩⟩⟩⟩⟩⟩⟩⟩⟩⟩⟩⟩⟩⟩⟩
theorem lw_p80 : lw_okq (⟨"ThirdComerModel", "draw", "()I"⟩, 70) := ⟨⟨by decide +kernel, by decide +kernel⟩, List.mem_of_getElem? (i := 1359) (by decide +kernel), List.mem_of_getElem? (i := 1808) (by decide +kernel), List.mem_of_getElem? (i := 1809) (by decide +kernel)⟩
theorem lw_p81 : lw_okq (⟨"ThirdComerModel", "worthOf", "(I)I"⟩, 70) := ⟨⟨by decide +kernel, by decide +kernel⟩, List.mem_of_getElem? (i := 1359) (by decide +kernel), List.mem_of_getElem? (i := 1815) (by decide +kernel), List.mem_of_getElem? (i := 1816) (by decide +kernel)⟩
theorem lw_p82 : lw_okq (⟨"ThirdComerModel", "workOut", "(III)I"⟩, 70) := ⟨⟨by decide +kernel, by decide +kernel⟩, List.mem_of_getElem? (i := 1359) (by decide +kernel), List.mem_of_getElem? (i := 1819) (by decide +kernel), List.mem_of_getElem? (i := 1820) (by decide +kernel)⟩
theorem lw_p83 : lw_okq (⟨"ThirdComerModel", "isPerson", "(I)Z"⟩, 70) := ⟨⟨by decide +kernel, by decide +kernel⟩, List.mem_of_getElem? (i := 1359) (by decide +kernel), List.mem_of_getElem? (i := 1841) (by decide +kernel), List.mem_of_getElem? (i := 1842) (by decide +kernel)⟩
theorem lw_p84 : lw_okq (⟨"ThirdComerModel", "hasPlace", "(I)Z"⟩, 70) := ⟨⟨by decide +kernel, by decide +kernel⟩, List.mem_of_getElem? (i := 1359) (by decide +kernel), List.mem_of_getElem? (i := 1846) (by decide +kernel), List.mem_of_getElem? (i := 1847) (by decide +kernel)⟩
theorem lw_p85 : lw_okq (⟨"ThirdComerModel", "gain", "(I)I"⟩, 70) := ⟨⟨by decide +kernel, by decide +kernel⟩, List.mem_of_getElem? (i := 1359) (by decide +kernel), List.mem_of_getElem? (i := 1850) (by decide +kernel), List.mem_of_getElem? (i := 1851) (by decide +kernel)⟩
theorem lw_p86 : lw_okq (⟨"ThirdComerModel", "fullAt", "()I"⟩, 70) := ⟨⟨by decide +kernel, by decide +kernel⟩, List.mem_of_getElem? (i := 1359) (by decide +kernel), List.mem_of_getElem? (i := 1858) (by decide +kernel), List.mem_of_getElem? (i := 1859) (by decide +kernel)⟩
theorem lw_p87 : lw_okq (⟨"ThirdComerModel", "lastWho", "()I"⟩, 70) := ⟨⟨by decide +kernel, by decide +kernel⟩, List.mem_of_getElem? (i := 1359) (by decide +kernel), List.mem_of_getElem? (i := 1862) (by decide +kernel), List.mem_of_getElem? (i := 1863) (by decide +kernel)⟩
theorem lw_p88 : lw_okq (⟨"ThirdComerModel", "putAside", "()V"⟩, 70) := ⟨⟨by decide +kernel, by decide +kernel⟩, List.mem_of_getElem? (i := 1359) (by decide +kernel), List.mem_of_getElem? (i := 1873) (by decide +kernel), List.mem_of_getElem? (i := 1874) (by decide +kernel)⟩
theorem lw_p89 : lw_okq (⟨"ThirdComerModel", "keepTo", "([I)V"⟩, 70) := ⟨⟨by decide +kernel, by decide +kernel⟩, List.mem_of_getElem? (i := 1359) (by decide +kernel), List.mem_of_getElem? (i := 1877) (by decide +kernel), List.mem_of_getElem? (i := 1878) (by decide +kernel)⟩
theorem lw_p90 : lw_okq (⟨"ThirdComerModel", "over", "(III)I"⟩, 70) := ⟨⟨by decide +kernel, by decide +kernel⟩, List.mem_of_getElem? (i := 1359) (by decide +kernel), List.mem_of_getElem? (i := 1881) (by decide +kernel), List.mem_of_getElem? (i := 1882) (by decide +kernel)⟩
theorem lw_p91 : lw_okq (⟨"ThirdComerModel", "whole", "(J)V"⟩, 70) := ⟨⟨by decide +kernel, by decide +kernel⟩, List.mem_of_getElem? (i := 1359) (by decide +kernel), List.mem_of_getElem? (i := 1885) (by decide +kernel), List.mem_of_getElem? (i := 1886) (by decide +kernel)⟩
theorem lw_p92 : lw_okq (⟨"ThirdComerModel", "allAtOnce", "()Z"⟩, 70) := ⟨⟨by decide +kernel, by decide +kernel⟩, List.mem_of_getElem? (i := 1359) (by decide +kernel), List.mem_of_getElem? (i := 1889) (by decide +kernel), List.mem_of_getElem? (i := 1890) (by decide +kernel)⟩
theorem lw_p93 : lw_okq (⟨"ThirdComerModel", "takeBack", "()V"⟩, 70) := ⟨⟨by decide +kernel, by decide +kernel⟩, List.mem_of_getElem? (i := 1359) (by decide +kernel), List.mem_of_getElem? (i := 1893) (by decide +kernel), List.mem_of_getElem? (i := 1894) (by decide +kernel)⟩
theorem lw_p94 : lw_okq (⟨"ThirdComerModel", "takeFrom", "([I)V"⟩, 70) := ⟨⟨by decide +kernel, by decide +kernel⟩, List.mem_of_getElem? (i := 1359) (by decide +kernel), List.mem_of_getElem? (i := 1897) (by decide +kernel), List.mem_of_getElem? (i := 1898) (by decide +kernel)⟩
theorem lw_p95 : lw_okq (⟨"ThirdComerModel", "firstParts", "()V"⟩, 70) := ⟨⟨by decide +kernel, by decide +kernel⟩, List.mem_of_getElem? (i := 1359) (by decide +kernel), List.mem_of_getElem? (i := 1937) (by decide +kernel), List.mem_of_getElem? (i := 1938) (by decide +kernel)⟩
def lw_privs_6 : List (MethodName × Nat) := [(⟨"ThirdComerModel", "draw", "()I"⟩, 70), (⟨"ThirdComerModel", "worthOf", "(I)I"⟩, 70), (⟨"ThirdComerModel", "workOut", "(III)I"⟩, 70), (⟨"ThirdComerModel", "isPerson", "(I)Z"⟩, 70), (⟨"ThirdComerModel", "hasPlace", "(I)Z"⟩, 70), (⟨"ThirdComerModel", "gain", "(I)I"⟩, 70), (⟨"ThirdComerModel", "fullAt", "()I"⟩, 70), (⟨"ThirdComerModel", "lastWho", "()I"⟩, 70), (⟨"ThirdComerModel", "putAside", "()V"⟩, 70), (⟨"ThirdComerModel", "keepTo", "([I)V"⟩, 70), (⟨"ThirdComerModel", "over", "(III)I"⟩, 70), (⟨"ThirdComerModel", "whole", "(J)V"⟩, 70), (⟨"ThirdComerModel", "allAtOnce", "()Z"⟩, 70), (⟨"ThirdComerModel", "takeBack", "()V"⟩, 70), (⟨"ThirdComerModel", "takeFrom", "([I)V"⟩, 70), (⟨"ThirdComerModel", "firstParts", "()V"⟩, 70)]
theorem lw_r6 : ∀ q ∈ lw_privs_6, lw_okq q := List.forall_mem_cons.mpr ⟨lw_p80, List.forall_mem_cons.mpr ⟨lw_p81, List.forall_mem_cons.mpr ⟨lw_p82, List.forall_mem_cons.mpr ⟨lw_p83, List.forall_mem_cons.mpr ⟨lw_p84, List.forall_mem_cons.mpr ⟨lw_p85, List.forall_mem_cons.mpr ⟨lw_p86, List.forall_mem_cons.mpr ⟨lw_p87, List.forall_mem_cons.mpr ⟨lw_p88, List.forall_mem_cons.mpr ⟨lw_p89, List.forall_mem_cons.mpr ⟨lw_p90, List.forall_mem_cons.mpr ⟨lw_p91, List.forall_mem_cons.mpr ⟨lw_p92, List.forall_mem_cons.mpr ⟨lw_p93, List.forall_mem_cons.mpr ⟨lw_p94, List.forall_mem_cons.mpr ⟨lw_p95, fun _ h => absurd h List.not_mem_nil⟩⟩⟩⟩⟩⟩⟩⟩⟩⟩⟩⟩⟩⟩⟩⟩
theorem lw_p96 : lw_okq (⟨"ThirdComerModel", "takenIn", "(I)J"⟩, 70) := ⟨⟨by decide +kernel, by decide +kernel⟩, List.mem_of_getElem? (i := 1359) (by decide +kernel), List.mem_of_getElem? (i := 1942) (by decide +kernel), List.mem_of_getElem? (i := 1943) (by decide +kernel)⟩
theorem lw_p97 : lw_okq (⟨"ThirdComerModel", "more", "(IIII)J"⟩, 70) := ⟨⟨by decide +kernel, by decide +kernel⟩, List.mem_of_getElem? (i := 1359) (by decide +kernel), List.mem_of_getElem? (i := 1946) (by decide +kernel), List.mem_of_getElem? (i := 1947) (by decide +kernel)⟩
theorem lw_p98 : lw_okq (⟨"ThirdComerModel", "nextParts", "(II)V"⟩, 70) := ⟨⟨by decide +kernel, by decide +kernel⟩, List.mem_of_getElem? (i := 1359) (by decide +kernel), List.mem_of_getElem? (i := 1956) (by decide +kernel), List.mem_of_getElem? (i := 1957) (by decide +kernel)⟩
theorem lw_p99 : lw_okq (⟨"ThirdComerModel", "valueOf", "(I)J"⟩, 70) := ⟨⟨by decide +kernel, by decide +kernel⟩, List.mem_of_getElem? (i := 1359) (by decide +kernel), List.mem_of_getElem? (i := 1964) (by decide +kernel), List.mem_of_getElem? (i := 1965) (by decide +kernel)⟩
theorem lw_p100 : lw_okq (⟨"ThirdComerModel", "bestOf", "()I"⟩, 70) := ⟨⟨by decide +kernel, by decide +kernel⟩, List.mem_of_getElem? (i := 1359) (by decide +kernel), List.mem_of_getElem? (i := 1972) (by decide +kernel), List.mem_of_getElem? (i := 1973) (by decide +kernel)⟩
theorem lw_p101 : lw_okq (⟨"ThirdComerModel", "rests", "(I)Z"⟩, 70) := ⟨⟨by decide +kernel, by decide +kernel⟩, List.mem_of_getElem? (i := 1359) (by decide +kernel), List.mem_of_getElem? (i := 1980) (by decide +kernel), List.mem_of_getElem? (i := 1981) (by decide +kernel)⟩
theorem lw_p102 : lw_okq (⟨"ThirdComerModel", "isTold", "(I)Z"⟩, 70) := ⟨⟨by decide +kernel, by decide +kernel⟩, List.mem_of_getElem? (i := 1359) (by decide +kernel), List.mem_of_getElem? (i := 1996) (by decide +kernel), List.mem_of_getElem? (i := 1997) (by decide +kernel)⟩
theorem lw_p103 : lw_okq (⟨"ThirdComerModel", "toldRank", "(I)I"⟩, 70) := ⟨⟨by decide +kernel, by decide +kernel⟩, List.mem_of_getElem? (i := 1359) (by decide +kernel), List.mem_of_getElem? (i := 2004) (by decide +kernel), List.mem_of_getElem? (i := 2005) (by decide +kernel)⟩
theorem lw_p104 : lw_okq (⟨"ThirdComerModel", "toldGain", "(I)I"⟩, 70) := ⟨⟨by decide +kernel, by decide +kernel⟩, List.mem_of_getElem? (i := 1359) (by decide +kernel), List.mem_of_getElem? (i := 2008) (by decide +kernel), List.mem_of_getElem? (i := 2009) (by decide +kernel)⟩
theorem lw_p105 : lw_okq (⟨"ThirdComerModel", "answer", "(I)I"⟩, 70) := ⟨⟨by decide +kernel, by decide +kernel⟩, List.mem_of_getElem? (i := 1359) (by decide +kernel), List.mem_of_getElem? (i := 2012) (by decide +kernel), List.mem_of_getElem? (i := 2013) (by decide +kernel)⟩
theorem lw_p106 : lw_okq (⟨"ThirdComerModel", "regret", "(I)I"⟩, 70) := ⟨⟨by decide +kernel, by decide +kernel⟩, List.mem_of_getElem? (i := 1359) (by decide +kernel), List.mem_of_getElem? (i := 2016) (by decide +kernel), List.mem_of_getElem? (i := 2017) (by decide +kernel)⟩
theorem lw_p107 : lw_okq (⟨"ThirdComerModel", "rankAmong", "(I)I"⟩, 70) := ⟨⟨by decide +kernel, by decide +kernel⟩, List.mem_of_getElem? (i := 1359) (by decide +kernel), List.mem_of_getElem? (i := 2036) (by decide +kernel), List.mem_of_getElem? (i := 2037) (by decide +kernel)⟩
theorem lw_p108 : lw_okq (⟨"ThirdComerModel", "isSort", "(I)Z"⟩, 70) := ⟨⟨by decide +kernel, by decide +kernel⟩, List.mem_of_getElem? (i := 1359) (by decide +kernel), List.mem_of_getElem? (i := 2068) (by decide +kernel), List.mem_of_getElem? (i := 2069) (by decide +kernel)⟩
theorem lw_p109 : lw_okq (⟨"ThirdComerModel", "gainsOf", "(II)I"⟩, 70) := ⟨⟨by decide +kernel, by decide +kernel⟩, List.mem_of_getElem? (i := 1359) (by decide +kernel), List.mem_of_getElem? (i := 2072) (by decide +kernel), List.mem_of_getElem? (i := 2073) (by decide +kernel)⟩
theorem lw_p110 : lw_okq (⟨"ThirdComerModel", "betterOf", "(II)I"⟩, 70) := ⟨⟨by decide +kernel, by decide +kernel⟩, List.mem_of_getElem? (i := 1359) (by decide +kernel), List.mem_of_getElem? (i := 2080) (by decide +kernel), List.mem_of_getElem? (i := 2081) (by decide +kernel)⟩
theorem lw_p111 : lw_okq (⟨"ThirdComerModel", "takenBy", "(I)J"⟩, 70) := ⟨⟨by decide +kernel, by decide +kernel⟩, List.mem_of_getElem? (i := 1359) (by decide +kernel), List.mem_of_getElem? (i := 2106) (by decide +kernel), List.mem_of_getElem? (i := 2107) (by decide +kernel)⟩
def lw_privs_7 : List (MethodName × Nat) := [(⟨"ThirdComerModel", "takenIn", "(I)J"⟩, 70), (⟨"ThirdComerModel", "more", "(IIII)J"⟩, 70), (⟨"ThirdComerModel", "nextParts", "(II)V"⟩, 70), (⟨"ThirdComerModel", "valueOf", "(I)J"⟩, 70), (⟨"ThirdComerModel", "bestOf", "()I"⟩, 70), (⟨"ThirdComerModel", "rests", "(I)Z"⟩, 70), (⟨"ThirdComerModel", "isTold", "(I)Z"⟩, 70), (⟨"ThirdComerModel", "toldRank", "(I)I"⟩, 70), (⟨"ThirdComerModel", "toldGain", "(I)I"⟩, 70), (⟨"ThirdComerModel", "answer", "(I)I"⟩, 70), (⟨"ThirdComerModel", "regret", "(I)I"⟩, 70), (⟨"ThirdComerModel", "rankAmong", "(I)I"⟩, 70), (⟨"ThirdComerModel", "isSort", "(I)Z"⟩, 70), (⟨"ThirdComerModel", "gainsOf", "(II)I"⟩, 70), (⟨"ThirdComerModel", "betterOf", "(II)I"⟩, 70), (⟨"ThirdComerModel", "takenBy", "(I)J"⟩, 70)]
theorem lw_r7 : ∀ q ∈ lw_privs_7, lw_okq q := List.forall_mem_cons.mpr ⟨lw_p96, List.forall_mem_cons.mpr ⟨lw_p97, List.forall_mem_cons.mpr ⟨lw_p98, List.forall_mem_cons.mpr ⟨lw_p99, List.forall_mem_cons.mpr ⟨lw_p100, List.forall_mem_cons.mpr ⟨lw_p101, List.forall_mem_cons.mpr ⟨lw_p102, List.forall_mem_cons.mpr ⟨lw_p103, List.forall_mem_cons.mpr ⟨lw_p104, List.forall_mem_cons.mpr ⟨lw_p105, List.forall_mem_cons.mpr ⟨lw_p106, List.forall_mem_cons.mpr ⟨lw_p107, List.forall_mem_cons.mpr ⟨lw_p108, List.forall_mem_cons.mpr ⟨lw_p109, List.forall_mem_cons.mpr ⟨lw_p110, List.forall_mem_cons.mpr ⟨lw_p111, fun _ h => absurd h List.not_mem_nil⟩⟩⟩⟩⟩⟩⟩⟩⟩⟩⟩⟩⟩⟩⟩⟩
def lw_privs : List (MethodName × Nat) := lw_privs_1 ++ (lw_privs_2 ++ (lw_privs_3 ++ (lw_privs_4 ++ (lw_privs_5 ++ (lw_privs_6 ++ (lw_privs_7))))))
def lw_tbl : List Cond := k2_sels lw_privs ++ tables_1
theorem lw_privs_ok : ∀ q ∈ lw_privs, lw_okq q := by
  show ∀ q ∈ lw_privs_1 ++ (lw_privs_2 ++ (lw_privs_3 ++ (lw_privs_4 ++ (lw_privs_5 ++ (lw_privs_6 ++ (lw_privs_7)))))), lw_okq q
  exact List.forall_mem_append.mpr ⟨lw_r1, List.forall_mem_append.mpr ⟨lw_r2, List.forall_mem_append.mpr ⟨lw_r3, List.forall_mem_append.mpr ⟨lw_r4, List.forall_mem_append.mpr ⟨lw_r5, List.forall_mem_append.mpr ⟨lw_r6, lw_r7⟩⟩⟩⟩⟩⟩
def RX0 : String := "ThirdComer$Customs"
def TX0 : u_T := fun k => match k with
  | 0 => ("ThirdComer$Customs", "ways", "[LThirdComer$Way;", true)
  | 1 => ("ThirdComer$Customs", "count", "I", false)
  | 2 => ("ThirdComer$Customs", "ofSort", "[I", true)
  | 3 => ("ThirdComer$Customs", "keptOfSort", "[I", true)
  | 4 => ("ThirdComer$Customs", "letters", "[I", true)
  | _ => ("ThirdComer$Customs", "pile", "[I", true)
def tyX0 : Nat → FieldType := fun k => match k with
  | 0 => .array (.object "ThirdComer$Way")
  | 1 => .int
  | 2 => .array .int
  | 3 => .array .int
  | 4 => .array .int
  | _ => .array .int
theorem nmX0 : ∀ a, a < 6 → ∀ b, b < 6 → a ≠ b → (TX0 a).2.1 ≠ (TX0 b).2.1 := by decide +kernel
theorem tyX0_ok : ∀ k, k < 6 → parseFieldDescriptor (TX0 k).2.2.1 = some (tyX0 k) := by decide +kernel
abbrev cX0_init : ByteArray := prog_2_method_1_code
def yX0_init : MethodName := ⟨RX0, "<init>", "()V"⟩
abbrev cX0_spare : ByteArray := prog_2_method_2_code
def yX0_spare : MethodName := ⟨RX0, "spare", "()LThirdComer$Way;"⟩
abbrev cX0_usedBy : ByteArray := prog_2_method_3_code
def yX0_usedBy : MethodName := ⟨RX0, "usedBy", "(I)LThirdComer$Way;"⟩
abbrev cX0_keep : ByteArray := prog_2_method_4_code
def yX0_keep : MethodName := ⟨RX0, "keep", "()V"⟩
abbrev cX0_restore : ByteArray := prog_2_method_5_code
def yX0_restore : MethodName := ⟨RX0, "restore", "()V"⟩
def RX1 : String := "ThirdComer$Morning"
def TX1 : u_T := fun k => match k with
  | 0 => ("ThirdComer$Morning", "village", "LThirdComer$Village;", false)
  | 1 => ("ThirdComer$Morning", "thing", "I", false)
  | 2 => ("ThirdComer$Morning", "look", "I", false)
  | 3 => ("ThirdComer$Morning", "nth", "I", false)
  | 4 => ("ThirdComer$Morning", "places", "I", false)
  | 5 => ("ThirdComer$Morning", "sent", "I", false)
  | 6 => ("ThirdComer$Morning", "stranger", "I", false)
  | 7 => ("ThirdComer$Morning", "draw", "J", false)
  | 8 => ("ThirdComer$Morning", "minute", "I", false)
  | 9 => ("ThirdComer$Morning", "here", "I", false)
  | 10 => ("ThirdComer$Morning", "waiting", "I", false)
  | 11 => ("ThirdComer$Morning", "had", "I", false)
  | 12 => ("ThirdComer$Morning", "over", "Z", false)
  | 13 => ("ThirdComer$Morning", "lastMinute", "I", false)
  | 14 => ("ThirdComer$Morning", "lastPerson", "I", false)
  | 15 => ("ThirdComer$Morning", "went", "[I", true)
  | 16 => ("ThirdComer$Morning", "rank", "[I", true)
  | _ => ("ThirdComer$Morning", "waitingOf", "[I", true)
def tyX1 : Nat → FieldType := fun k => match k with
  | 0 => .object "ThirdComer$Village"
  | 1 => .int
  | 2 => .int
  | 3 => .int
  | 4 => .int
  | 5 => .int
  | 6 => .int
  | 7 => .long
  | 8 => .int
  | 9 => .int
  | 10 => .int
  | 11 => .int
  | 12 => .boolean
  | 13 => .int
  | 14 => .int
  | 15 => .array .int
  | 16 => .array .int
  | _ => .array .int
theorem nmX1 : ∀ a, a < 18 → ∀ b, b < 18 → a ≠ b → (TX1 a).2.1 ≠ (TX1 b).2.1 := by decide +kernel
theorem tyX1_ok : ∀ k, k < 18 → parseFieldDescriptor (TX1 k).2.2.1 = some (tyX1 k) := by decide +kernel
abbrev cX1_init : ByteArray := prog_3_method_1_code
def yX1_init : MethodName := ⟨RX1, "<init>", "()V"⟩
abbrev cX1_began : ByteArray := prog_3_method_2_code
def yX1_began : MethodName := ⟨RX1, "began", "()Z"⟩
abbrev cX1_beOf : ByteArray := prog_3_method_3_code
def yX1_beOf : MethodName := ⟨RX1, "beOf", "(LThirdComer$Village;II)V"⟩
abbrev cX1_begin : ByteArray := prog_3_method_4_code
def yX1_begin : MethodName := ⟨RX1, "begin", "(J)V"⟩
abbrev cX1_copy : ByteArray := prog_3_method_5_code
def yX1_copy : MethodName := ⟨RX1, "copy", "(LThirdComer$Morning;)V"⟩
abbrev cX1_underway : ByteArray := prog_3_method_6_code
def yX1_underway : MethodName := ⟨RX1, "underway", "()I"⟩
abbrev cX1_stateOf : ByteArray := prog_3_method_7_code
def yX1_stateOf : MethodName := ⟨RX1, "stateOf", "(I)I"⟩
abbrev cX1_minuteOf : ByteArray := prog_3_method_8_code
def yX1_minuteOf : MethodName := ⟨RX1, "minuteOf", "(I)I"⟩
abbrev cX1_has : ByteArray := prog_3_method_9_code
def yX1_has : MethodName := ⟨RX1, "has", "(I)Z"⟩
abbrev cX1_gainOf : ByteArray := prog_3_method_10_code
def yX1_gainOf : MethodName := ⟨RX1, "gainOf", "(I)I"⟩
abbrev cX1_pass : ByteArray := prog_3_method_11_code
def yX1_pass : MethodName := ⟨RX1, "pass", "(ILThirdComer$Customs;)I"⟩
abbrev cX1_arrive : ByteArray := prog_3_method_12_code
def yX1_arrive : MethodName := ⟨RX1, "arrive", "()V"⟩
abbrev cX1_receive : ByteArray := prog_3_method_13_code
def yX1_receive : MethodName := ⟨RX1, "receive", "(I)V"⟩
abbrev cX1_decide : ByteArray := prog_3_method_14_code
def yX1_decide : MethodName := ⟨RX1, "decide", "(LThirdComer$Customs;)V"⟩
abbrev cX1_goesUnasked : ByteArray := prog_3_method_15_code
def yX1_goesUnasked : MethodName := ⟨RX1, "goesUnasked", "(II)Z"⟩
abbrev cX1_send : ByteArray := prog_3_method_16_code
def yX1_send : MethodName := ⟨RX1, "send", "(II)V"⟩
abbrev cX1_drawOfTen : ByteArray := prog_3_method_17_code
def yX1_drawOfTen : MethodName := ⟨RX1, "drawOfTen", "()I"⟩
abbrev cX1_spell : ByteArray := prog_3_method_18_code
def yX1_spell : MethodName := ⟨RX1, "spell", "(I[I)V"⟩
def RX2 : String := "ThirdComer$Row"
def TX2 : u_T := fun k => match k with
  | 0 => ("ThirdComer$Row", "people", "I", false)
  | 1 => ("ThirdComer$Row", "nth", "I", false)
  | 2 => ("ThirdComer$Row", "worth", "I", false)
  | 3 => ("ThirdComer$Row", "fall", "I", false)
  | 4 => ("ThirdComer$Row", "cost", "I", false)
  | 5 => ("ThirdComer$Row", "minutes", "I", false)
  | 6 => ("ThirdComer$Row", "chances", "[I", true)
  | 7 => ("ThirdComer$Row", "takenIn", "[J", true)
  | 8 => ("ThirdComer$Row", "goneAhead", "[J", true)
  | 9 => ("ThirdComer$Row", "values", "[J", true)
  | 10 => ("ThirdComer$Row", "shares", "[J", true)
  | 11 => ("ThirdComer$Row", "parts", "[J", false)
  | 12 => ("ThirdComer$Row", "partsBehind", "[J", false)
  | 13 => ("ThirdComer$Row", "powers", "[J", true)
  | 14 => ("ThirdComer$Row", "tried", "[I", true)
  | 15 => ("ThirdComer$Row", "rests", "[I", true)
  | 16 => ("ThirdComer$Row", "restCount", "I", false)
  | _ => ("ThirdComer$Row", "searchedBy", "I", false)
def tyX2 : Nat → FieldType := fun k => match k with
  | 0 => .int
  | 1 => .int
  | 2 => .int
  | 3 => .int
  | 4 => .int
  | 5 => .int
  | 6 => .array .int
  | 7 => .array .long
  | 8 => .array .long
  | 9 => .array .long
  | 10 => .array .long
  | 11 => .array .long
  | 12 => .array .long
  | 13 => .array .long
  | 14 => .array .int
  | 15 => .array .int
  | 16 => .int
  | _ => .int
theorem nmX2 : ∀ a, a < 18 → ∀ b, b < 18 → a ≠ b → (TX2 a).2.1 ≠ (TX2 b).2.1 := by decide +kernel
theorem tyX2_ok : ∀ k, k < 18 → parseFieldDescriptor (TX2 k).2.2.1 = some (tyX2 k) := by decide +kernel
abbrev cX2_init : ByteArray := prog_4_method_1_code
def yX2_init : MethodName := ⟨RX2, "<init>", "()V"⟩
abbrev cX2_isThere : ByteArray := prog_4_method_2_code
def yX2_isThere : MethodName := ⟨RX2, "isThere", "()Z"⟩
abbrev cX2_begin : ByteArray := prog_4_method_3_code
def yX2_begin : MethodName := ⟨RX2, "begin", "(III)V"⟩
abbrev cX2_followAll : ByteArray := prog_4_method_4_code
def yX2_followAll : MethodName := ⟨RX2, "followAll", "()V"⟩
abbrev cX2_follow : ByteArray := prog_4_method_5_code
def yX2_follow : MethodName := ⟨RX2, "follow", "(I[II)V"⟩
abbrev cX2_goneByNow : ByteArray := prog_4_method_6_code
def yX2_goneByNow : MethodName := ⟨RX2, "goneByNow", "()J"⟩
abbrev cX2_goOn : ByteArray := prog_4_method_7_code
def yX2_goOn : MethodName := ⟨RX2, "goOn", "(III)V"⟩
abbrev cX2_weight : ByteArray := prog_4_method_8_code
def yX2_weight : MethodName := ⟨RX2, "weight", "(III)J"⟩
abbrev cX2_takenUpTo : ByteArray := prog_4_method_9_code
def yX2_takenUpTo : MethodName := ⟨RX2, "takenUpTo", "(I)J"⟩
abbrev cX2_never : ByteArray := prog_4_method_10_code
def yX2_never : MethodName := ⟨RX2, "never", "()J"⟩
abbrev cX2_meanMinute : ByteArray := prog_4_method_11_code
def yX2_meanMinute : MethodName := ⟨RX2, "meanMinute", "()I"⟩
abbrev cX2_weigh : ByteArray := prog_4_method_12_code
def yX2_weigh : MethodName := ⟨RX2, "weigh", "([I)V"⟩
abbrev cX2_greatest : ByteArray := prog_4_method_13_code
def yX2_greatest : MethodName := ⟨RX2, "greatest", "()I"⟩
abbrev cX2_restsBy : ByteArray := prog_4_method_14_code
def yX2_restsBy : MethodName := ⟨RX2, "restsBy", "(I[I)Z"⟩
abbrev cX2_search : ByteArray := prog_4_method_15_code
def yX2_search : MethodName := ⟨RX2, "search", "(I)V"⟩
abbrev cX2_likeliest : ByteArray := prog_4_method_16_code
def yX2_likeliest : MethodName := ⟨RX2, "likeliest", "(I)I"⟩
def RX3 : String := "ThirdComer$Tally"
def TX3 : u_T := fun k => match k with
  | 0 => ("ThirdComer$Tally", "trial", "LThirdComer$Morning;", true)
  | 1 => ("ThirdComer$Tally", "sums", "[I", true)
  | 2 => ("ThirdComer$Tally", "hadBits", "[I", true)
  | 3 => ("ThirdComer$Tally", "lastMinutes", "[I", true)
  | 4 => ("ThirdComer$Tally", "seeds", "I", false)
  | 5 => ("ThirdComer$Tally", "allAtOnce", "Z", false)
  | 6 => ("ThirdComer$Tally", "mostGains", "I", false)
  | _ => ("ThirdComer$Tally", "ownGains", "I", false)
def tyX3 : Nat → FieldType := fun k => match k with
  | 0 => .object "ThirdComer$Morning"
  | 1 => .array .int
  | 2 => .array .int
  | 3 => .array .int
  | 4 => .int
  | 5 => .boolean
  | 6 => .int
  | _ => .int
theorem nmX3 : ∀ a, a < 8 → ∀ b, b < 8 → a ≠ b → (TX3 a).2.1 ≠ (TX3 b).2.1 := by decide +kernel
theorem tyX3_ok : ∀ k, k < 8 → parseFieldDescriptor (TX3 k).2.2.1 = some (tyX3 k) := by decide +kernel
abbrev cX3_init : ByteArray := prog_5_method_1_code
def yX3_init : MethodName := ⟨RX3, "<init>", "()V"⟩
abbrev cX3_takeAfter : ByteArray := prog_5_method_2_code
def yX3_takeAfter : MethodName := ⟨RX3, "takeAfter", "(LThirdComer$Morning;)V"⟩
abbrev cX3_run : ByteArray := prog_5_method_3_code
def yX3_run : MethodName := ⟨RX3, "run", "(ILThirdComer$Customs;)V"⟩
abbrev cX3_note : ByteArray := prog_5_method_4_code
def yX3_note : MethodName := ⟨RX3, "note", "(I)V"⟩
abbrev cX3_hadBy : ByteArray := prog_5_method_5_code
def yX3_hadBy : MethodName := ⟨RX3, "hadBy", "(I)I"⟩
abbrev cX3_hadByBoth : ByteArray := prog_5_method_6_code
def yX3_hadByBoth : MethodName := ⟨RX3, "hadByBoth", "(II)I"⟩
abbrev cX3_late : ByteArray := prog_5_method_7_code
def yX3_late : MethodName := ⟨RX3, "late", "()I"⟩
abbrev cX3_endsIn : ByteArray := prog_5_method_8_code
def yX3_endsIn : MethodName := ⟨RX3, "endsIn", "(I)I"⟩
abbrev cX3_gainsOf : ByteArray := prog_5_method_9_code
def yX3_gainsOf : MethodName := ⟨RX3, "gainsOf", "(I)I"⟩
abbrev cX3_bestWay : ByteArray := prog_5_method_10_code
def yX3_bestWay : MethodName := ⟨RX3, "bestWay", "(IILThirdComer$Customs;)I"⟩
def RX4 : String := "ThirdComer$Tape"
def TX4 : u_T := fun k => match k with
  | 0 => ("ThirdComer$Tape", "bytes", "[I", true)
  | 1 => ("ThirdComer$Tape", "length", "I", false)
  | 2 => ("ThirdComer$Tape", "at", "I", false)
  | _ => ("ThirdComer$Tape", "wrongAt", "I", false)
def tyX4 : Nat → FieldType := fun k => match k with
  | 0 => .array .int
  | 1 => .int
  | 2 => .int
  | _ => .int
theorem nmX4 : ∀ a, a < 4 → ∀ b, b < 4 → a ≠ b → (TX4 a).2.1 ≠ (TX4 b).2.1 := by decide +kernel
theorem tyX4_ok : ∀ k, k < 4 → parseFieldDescriptor (TX4 k).2.2.1 = some (tyX4 k) := by decide +kernel
abbrev cX4_init : ByteArray := prog_6_method_1_code
def yX4_init : MethodName := ⟨RX4, "<init>", "()V"⟩
abbrev cX4_bytesOf : ByteArray := prog_6_method_2_code
def yX4_bytesOf : MethodName := ⟨RX4, "bytesOf", "(I)I"⟩
abbrev cX4_add : ByteArray := prog_6_method_3_code
def yX4_add : MethodName := ⟨RX4, "add", "(I)V"⟩
abbrev cX4_rewind : ByteArray := prog_6_method_4_code
def yX4_rewind : MethodName := ⟨RX4, "rewind", "()V"⟩
abbrev cX4_next : ByteArray := prog_6_method_5_code
def yX4_next : MethodName := ⟨RX4, "next", "()I"⟩
abbrev cX4_peek : ByteArray := prog_6_method_6_code
def yX4_peek : MethodName := ⟨RX4, "peek", "()I"⟩
abbrev cX4_fail : ByteArray := prog_6_method_7_code
def yX4_fail : MethodName := ⟨RX4, "fail", "(I)Z"⟩
abbrev cX4_take : ByteArray := prog_6_method_8_code
def yX4_take : MethodName := ⟨RX4, "take", "(C)Z"⟩
abbrev cX4_takeNumber : ByteArray := prog_6_method_9_code
def yX4_takeNumber : MethodName := ⟨RX4, "takeNumber", "(I)I"⟩
abbrev cX4_isDigit : ByteArray := prog_6_method_10_code
def yX4_isDigit : MethodName := ⟨RX4, "isDigit", "(I)Z"⟩
abbrev cX4_peekAmong : ByteArray := prog_6_method_11_code
def yX4_peekAmong : MethodName := ⟨RX4, "peekAmong", "(Ljava/lang/String;)I"⟩
def RX5 : String := "ThirdComer$Told"
def TX5 : u_T := fun k => match k with
  | 0 => ("ThirdComer$Told", "village", "LThirdComer$Village;", false)
  | 1 => ("ThirdComer$Told", "thing", "I", false)
  | 2 => ("ThirdComer$Told", "minutes", "[I", true)
  | 3 => ("ThirdComer$Told", "minutesAhead", "[I", true)
  | 4 => ("ThirdComer$Told", "comers", "[I", true)
  | _ => ("ThirdComer$Told", "ranks", "[I", true)
def tyX5 : Nat → FieldType := fun k => match k with
  | 0 => .object "ThirdComer$Village"
  | 1 => .int
  | 2 => .array .int
  | 3 => .array .int
  | 4 => .array .int
  | _ => .array .int
theorem nmX5 : ∀ a, a < 6 → ∀ b, b < 6 → a ≠ b → (TX5 a).2.1 ≠ (TX5 b).2.1 := by decide +kernel
theorem tyX5_ok : ∀ k, k < 6 → parseFieldDescriptor (TX5 k).2.2.1 = some (tyX5 k) := by decide +kernel
abbrev cX5_init : ByteArray := prog_7_method_1_code
def yX5_init : MethodName := ⟨RX5, "<init>", "()V"⟩
abbrev cX5_began : ByteArray := prog_7_method_2_code
def yX5_began : MethodName := ⟨RX5, "began", "()Z"⟩
abbrev cX5_begin : ByteArray := prog_7_method_3_code
def yX5_begin : MethodName := ⟨RX5, "begin", "(LThirdComer$Village;I)V"⟩
abbrev cX5_rankBesideOthers : ByteArray := prog_7_method_4_code
def yX5_rankBesideOthers : MethodName := ⟨RX5, "rankBesideOthers", "(I)V"⟩
abbrev cX5_hasBy : ByteArray := prog_7_method_5_code
def yX5_hasBy : MethodName := ⟨RX5, "hasBy", "(I)Z"⟩
abbrev cX5_gainBy : ByteArray := prog_7_method_6_code
def yX5_gainBy : MethodName := ⟨RX5, "gainBy", "(II)I"⟩
abbrev cX5_bestBesideOthers : ByteArray := prog_7_method_7_code
def yX5_bestBesideOthers : MethodName := ⟨RX5, "bestBesideOthers", "(I)I"⟩
abbrev cX5_rankOf : ByteArray := prog_7_method_8_code
def yX5_rankOf : MethodName := ⟨RX5, "rankOf", "(I)I"⟩
abbrev cX5_gainOf : ByteArray := prog_7_method_9_code
def yX5_gainOf : MethodName := ⟨RX5, "gainOf", "(I)I"⟩
abbrev cX5_answerOf : ByteArray := prog_7_method_10_code
def yX5_answerOf : MethodName := ⟨RX5, "answerOf", "(I)I"⟩
abbrev cX5_regretOf : ByteArray := prog_7_method_11_code
def yX5_regretOf : MethodName := ⟨RX5, "regretOf", "(I)I"⟩
abbrev cX5_takeTurns : ByteArray := prog_7_method_12_code
def yX5_takeTurns : MethodName := ⟨RX5, "takeTurns", "()I"⟩
abbrev cX5_gainBySwap : ByteArray := prog_7_method_13_code
def yX5_gainBySwap : MethodName := ⟨RX5, "gainBySwap", "(II)I"⟩
abbrev cX5_exchange : ByteArray := prog_7_method_14_code
def yX5_exchange : MethodName := ⟨RX5, "exchange", "(II)V"⟩
abbrev cX5_fullest : ByteArray := prog_7_method_15_code
def yX5_fullest : MethodName := ⟨RX5, "fullest", "()I"⟩
abbrev cX5_firstWithPlace : ByteArray := prog_7_method_16_code
def yX5_firstWithPlace : MethodName := ⟨RX5, "firstWithPlace", "(I)I"⟩
def RX6 : String := "ThirdComer$Tour"
def TX6 : u_T := fun k => match k with
  | 0 => ("ThirdComer$Tour", "thingOf", "[I", true)
  | 1 => ("ThirdComer$Tour", "minuteOf", "[I", true)
  | 2 => ("ThirdComer$Tour", "visited", "[I", true)
  | 3 => ("ThirdComer$Tour", "coming", "[I", false)
  | _ => ("ThirdComer$Tour", "goingOn", "[I", false)
def tyX6 : Nat → FieldType := fun k => match k with
  | 0 => .array .int
  | 1 => .array .int
  | 2 => .array .int
  | 3 => .array .int
  | _ => .array .int
theorem nmX6 : ∀ a, a < 5 → ∀ b, b < 5 → a ≠ b → (TX6 a).2.1 ≠ (TX6 b).2.1 := by decide +kernel
theorem tyX6_ok : ∀ k, k < 5 → parseFieldDescriptor (TX6 k).2.2.1 = some (tyX6 k) := by decide +kernel
abbrev cX6_init : ByteArray := prog_8_method_1_code
def yX6_init : MethodName := ⟨RX6, "<init>", "()V"⟩
abbrev cX6_walk : ByteArray := prog_8_method_2_code
def yX6_walk : MethodName := ⟨RX6, "walk", "(LThirdComer$Told;I)V"⟩
abbrev cX6_visit : ByteArray := prog_8_method_3_code
def yX6_visit : MethodName := ⟨RX6, "visit", "(LThirdComer$Village;II)V"⟩
abbrev cX6_rankOf : ByteArray := prog_8_method_4_code
def yX6_rankOf : MethodName := ⟨RX6, "rankOf", "(II)I"⟩
def RX7 : String := "ThirdComer$Village"
def TX7 : u_T := fun k => match k with
  | 0 => ("ThirdComer$Village", "things", "I", false)
  | 1 => ("ThirdComer$Village", "sorts", "I", false)
  | 2 => ("ThirdComer$Village", "people", "I", false)
  | 3 => ("ThirdComer$Village", "thingItems", "[I", true)
  | 4 => ("ThirdComer$Village", "sortItems", "[I", true)
  | _ => ("ThirdComer$Village", "sortOf", "[I", true)
def tyX7 : Nat → FieldType := fun k => match k with
  | 0 => .int
  | 1 => .int
  | 2 => .int
  | 3 => .array .int
  | 4 => .array .int
  | _ => .array .int
theorem nmX7 : ∀ a, a < 6 → ∀ b, b < 6 → a ≠ b → (TX7 a).2.1 ≠ (TX7 b).2.1 := by decide +kernel
theorem tyX7_ok : ∀ k, k < 6 → parseFieldDescriptor (TX7 k).2.2.1 = some (tyX7 k) := by decide +kernel
abbrev cX7_init : ByteArray := prog_9_method_1_code
def yX7_init : MethodName := ⟨RX7, "<init>", "()V"⟩
abbrev cX7_clear : ByteArray := prog_9_method_2_code
def yX7_clear : MethodName := ⟨RX7, "clear", "()V"⟩
abbrev cX7_addThing : ByteArray := prog_9_method_3_code
def yX7_addThing : MethodName := ⟨RX7, "addThing", "()I"⟩
abbrev cX7_addSort : ByteArray := prog_9_method_4_code
def yX7_addSort : MethodName := ⟨RX7, "addSort", "()I"⟩
abbrev cX7_settlePeople : ByteArray := prog_9_method_5_code
def yX7_settlePeople : MethodName := ⟨RX7, "settlePeople", "()Z"⟩
abbrev cX7_ofThing : ByteArray := prog_9_method_6_code
def yX7_ofThing : MethodName := ⟨RX7, "ofThing", "(II)I"⟩
abbrev cX7_ofSort : ByteArray := prog_9_method_7_code
def yX7_ofSort : MethodName := ⟨RX7, "ofSort", "(II)I"⟩
abbrev cX7_ofPerson : ByteArray := prog_9_method_8_code
def yX7_ofPerson : MethodName := ⟨RX7, "ofPerson", "(II)I"⟩
abbrev cX7_worthIn : ByteArray := prog_9_method_9_code
def yX7_worthIn : MethodName := ⟨RX7, "worthIn", "(II)I"⟩
def RX8 : String := "ThirdComer$VillageReader"
def TX8 : u_T := fun k => match k with
  | _ => ("ThirdComer$VillageReader", "tape", "LThirdComer$Tape;", true)
def tyX8 : Nat → FieldType := fun k => match k with
  | _ => .object "ThirdComer$Tape"
theorem nmX8 : ∀ a, a < 1 → ∀ b, b < 1 → a ≠ b → (TX8 a).2.1 ≠ (TX8 b).2.1 := by decide +kernel
theorem tyX8_ok : ∀ k, k < 1 → parseFieldDescriptor (TX8 k).2.2.1 = some (tyX8 k) := by decide +kernel
abbrev cX8_init : ByteArray := prog_10_method_1_code
def yX8_init : MethodName := ⟨RX8, "<init>", "(LThirdComer$Tape;)V"⟩
abbrev cX8_read : ByteArray := prog_10_method_2_code
def yX8_read : MethodName := ⟨RX8, "read", "(LThirdComer$Village;)I"⟩
abbrev cX8_readClause : ByteArray := prog_10_method_3_code
def yX8_readClause : MethodName := ⟨RX8, "readClause", "(LThirdComer$Village;)Z"⟩
abbrev cX8_readItems : ByteArray := prog_10_method_4_code
def yX8_readItems : MethodName := ⟨RX8, "readItems", "(Ljava/lang/String;[I[I[II)Z"⟩
def RX9 : String := "ThirdComer$Way"
def TX9 : u_T := fun k => match k with
  | 0 => ("ThirdComer$Way", "steps", "[I", true)
  | 1 => ("ThirdComer$Way", "numbers", "[I", true)
  | _ => ("ThirdComer$Way", "size", "I", false)
def tyX9 : Nat → FieldType := fun k => match k with
  | 0 => .array .int
  | 1 => .array .int
  | _ => .int
theorem nmX9 : ∀ a, a < 3 → ∀ b, b < 3 → a ≠ b → (TX9 a).2.1 ≠ (TX9 b).2.1 := by decide +kernel
theorem tyX9_ok : ∀ k, k < 3 → parseFieldDescriptor (TX9 k).2.2.1 = some (tyX9 k) := by decide +kernel
abbrev cX9_init : ByteArray := prog_11_method_1_code
def yX9_init : MethodName := ⟨RX9, "<init>", "()V"⟩
abbrev cX9_add : ByteArray := prog_11_method_2_code
def yX9_add : MethodName := ⟨RX9, "add", "(II)Z"⟩
abbrev cX9_leadTo : ByteArray := prog_11_method_3_code
def yX9_leadTo : MethodName := ⟨RX9, "leadTo", "(II)V"⟩
abbrev cX9_valueIn : ByteArray := prog_11_method_4_code
def yX9_valueIn : MethodName := ⟨RX9, "valueIn", "([I[I)I"⟩
abbrev cX9_joined : ByteArray := prog_11_method_5_code
def yX9_joined : MethodName := ⟨RX9, "joined", "(III)I"⟩
def RX10 : String := "ThirdComer$WayReader"
def TX10 : u_T := fun k => match k with
  | 0 => ("ThirdComer$WayReader", "tape", "LThirdComer$Tape;", true)
  | _ => ("ThirdComer$WayReader", "way", "LThirdComer$Way;", false)
def tyX10 : Nat → FieldType := fun k => match k with
  | 0 => .object "ThirdComer$Tape"
  | _ => .object "ThirdComer$Way"
theorem nmX10 : ∀ a, a < 2 → ∀ b, b < 2 → a ≠ b → (TX10 a).2.1 ≠ (TX10 b).2.1 := by decide +kernel
theorem tyX10_ok : ∀ k, k < 2 → parseFieldDescriptor (TX10 k).2.2.1 = some (tyX10 k) := by decide +kernel
abbrev cX10_init : ByteArray := prog_12_method_1_code
def yX10_init : MethodName := ⟨RX10, "<init>", "(LThirdComer$Tape;)V"⟩
abbrev cX10_read : ByteArray := prog_12_method_2_code
def yX10_read : MethodName := ⟨RX10, "read", "(LThirdComer$Way;)I"⟩
abbrev cX10_readClause : ByteArray := prog_12_method_3_code
def yX10_readClause : MethodName := ⟨RX10, "readClause", "()Z"⟩
abbrev cX10_readCondition : ByteArray := prog_12_method_4_code
def yX10_readCondition : MethodName := ⟨RX10, "readCondition", "(IZ)Z"⟩
abbrev cX10_readTruth : ByteArray := prog_12_method_5_code
def yX10_readTruth : MethodName := ⟨RX10, "readTruth", "(IZ)Z"⟩
abbrev cX10_readUnit : ByteArray := prog_12_method_6_code
def yX10_readUnit : MethodName := ⟨RX10, "readUnit", "(IZ)Z"⟩
abbrev cX10_readSum : ByteArray := prog_12_method_7_code
def yX10_readSum : MethodName := ⟨RX10, "readSum", "(I)Z"⟩
abbrev cX10_readTerm : ByteArray := prog_12_method_8_code
def yX10_readTerm : MethodName := ⟨RX10, "readTerm", "(I)Z"⟩
abbrev cX10_readAtom : ByteArray := prog_12_method_9_code
def yX10_readAtom : MethodName := ⟨RX10, "readAtom", "(I)Z"⟩
abbrev cX10_openAt : ByteArray := prog_12_method_10_code
def yX10_openAt : MethodName := ⟨RX10, "openAt", "(I)Z"⟩
abbrev cX10_isComparison : ByteArray := prog_12_method_11_code
def yX10_isComparison : MethodName := ⟨RX10, "isComparison", "(I)Z"⟩
def RX11 : String := "ThirdComer"
def TX11 : u_T := fun k => match k with
  | 0 => ("ThirdComer", "tape", "LThirdComer$Tape;", true)
  | 1 => ("ThirdComer", "villageReader", "LThirdComer$VillageReader;", true)
  | 2 => ("ThirdComer", "wayReader", "LThirdComer$WayReader;", true)
  | 3 => ("ThirdComer", "villages", "[LThirdComer$Village;", true)
  | 4 => ("ThirdComer", "villageCount", "I", false)
  | 5 => ("ThirdComer", "customs", "LThirdComer$Customs;", true)
  | 6 => ("ThirdComer", "morning", "LThirdComer$Morning;", true)
  | 7 => ("ThirdComer", "kept", "LThirdComer$Morning;", true)
  | 8 => ("ThirdComer", "tally", "LThirdComer$Tally;", true)
  | 9 => ("ThirdComer", "row", "LThirdComer$Row;", true)
  | 10 => ("ThirdComer", "told", "LThirdComer$Told;", true)
  | 11 => ("ThirdComer", "tour", "LThirdComer$Tour;", true)
  | _ => ("ThirdComer", "between", "I", false)
def tyX11 : Nat → FieldType := fun k => match k with
  | 0 => .object "ThirdComer$Tape"
  | 1 => .object "ThirdComer$VillageReader"
  | 2 => .object "ThirdComer$WayReader"
  | 3 => .array (.object "ThirdComer$Village")
  | 4 => .int
  | 5 => .object "ThirdComer$Customs"
  | 6 => .object "ThirdComer$Morning"
  | 7 => .object "ThirdComer$Morning"
  | 8 => .object "ThirdComer$Tally"
  | 9 => .object "ThirdComer$Row"
  | 10 => .object "ThirdComer$Told"
  | 11 => .object "ThirdComer$Tour"
  | _ => .int
theorem nmX11 : ∀ a, a < 13 → ∀ b, b < 13 → a ≠ b → (TX11 a).2.1 ≠ (TX11 b).2.1 := by decide +kernel
theorem tyX11_ok : ∀ k, k < 13 → parseFieldDescriptor (TX11 k).2.2.1 = some (tyX11 k) := by decide +kernel
abbrev cX11_init : ByteArray := prog_1_method_1_code
def yX11_init : MethodName := ⟨RX11, "<init>", "()V"⟩
abbrev cX11_feed : ByteArray := prog_1_method_2_code
def yX11_feed : MethodName := ⟨RX11, "feed", "(IIIII)I"⟩
abbrev cX11_end : ByteArray := prog_1_method_3_code
def yX11_end : MethodName := ⟨RX11, "end", "(I)Z"⟩
abbrev cX11_fault : ByteArray := prog_1_method_4_code
def yX11_fault : MethodName := ⟨RX11, "fault", "(I)I"⟩
abbrev cX11_text : ByteArray := prog_1_method_5_code
def yX11_text : MethodName := ⟨RX11, "text", "(I)I"⟩
abbrev cX11_village : ByteArray := prog_1_method_6_code
def yX11_village : MethodName := ⟨RX11, "village", "(II)I"⟩
abbrev cX11_thing : ByteArray := prog_1_method_7_code
def yX11_thing : MethodName := ⟨RX11, "thing", "(III)I"⟩
abbrev cX11_sort : ByteArray := prog_1_method_8_code
def yX11_sort : MethodName := ⟨RX11, "sort", "(III)I"⟩
abbrev cX11_of : ByteArray := prog_1_method_9_code
def yX11_of : MethodName := ⟨RX11, "of", "(II)I"⟩
abbrev cX11_way : ByteArray := prog_1_method_10_code
def yX11_way : MethodName := ⟨RX11, "way", "(II)Z"⟩
abbrev cX11_wayOf : ByteArray := prog_1_method_11_code
def yX11_wayOf : MethodName := ⟨RX11, "wayOf", "(I)I"⟩
abbrev cX11_count : ByteArray := prog_1_method_12_code
def yX11_count : MethodName := ⟨RX11, "count", "(I)I"⟩
abbrev cX11_start : ByteArray := prog_1_method_13_code
def yX11_start : MethodName := ⟨RX11, "start", "(IIIJ)Z"⟩
abbrev cX11_minutes : ByteArray := prog_1_method_14_code
def yX11_minutes : MethodName := ⟨RX11, "minutes", "(I)I"⟩
abbrev cX11_who : ByteArray := prog_1_method_15_code
def yX11_who : MethodName := ⟨RX11, "who", "(II)I"⟩
abbrev cX11_about : ByteArray := prog_1_method_16_code
def yX11_about : MethodName := ⟨RX11, "about", "(I)I"⟩
abbrev cX11_image : ByteArray := prog_1_method_17_code
def yX11_image : MethodName := ⟨RX11, "image", "()I"⟩
abbrev cX11_back : ByteArray := prog_1_method_18_code
def yX11_back : MethodName := ⟨RX11, "back", "()I"⟩
abbrev cX11_odds : ByteArray := prog_1_method_19_code
def yX11_odds : MethodName := ⟨RX11, "odds", "(III)I"⟩
abbrev cX11_law : ByteArray := prog_1_method_20_code
def yX11_law : MethodName := ⟨RX11, "law", "(II)I"⟩
abbrev cX11_which : ByteArray := prog_1_method_21_code
def yX11_which : MethodName := ⟨RX11, "which", "(I)I"⟩
abbrev cX11_quiet : ByteArray := prog_1_method_22_code
def yX11_quiet : MethodName := ⟨RX11, "quiet", "(I)I"⟩
abbrev cX11_pay : ByteArray := prog_1_method_23_code
def yX11_pay : MethodName := ⟨RX11, "pay", "(III)I"⟩
abbrev cX11_price : ByteArray := prog_1_method_24_code
def yX11_price : MethodName := ⟨RX11, "price", "(II)I"⟩
abbrev cX11_strangers : ByteArray := prog_1_method_25_code
def yX11_strangers : MethodName := ⟨RX11, "strangers", "(II)I"⟩
abbrev cX11_ends : ByteArray := prog_1_method_26_code
def yX11_ends : MethodName := ⟨RX11, "ends", "(II)I"⟩
abbrev cX11_both : ByteArray := prog_1_method_27_code
def yX11_both : MethodName := ⟨RX11, "both", "(III)I"⟩
abbrev cX11_kin : ByteArray := prog_1_method_28_code
def yX11_kin : MethodName := ⟨RX11, "kin", "(III)I"⟩
abbrev cX11_seen : ByteArray := prog_1_method_29_code
def yX11_seen : MethodName := ⟨RX11, "seen", "(I)I"⟩
abbrev cX11_gains : ByteArray := prog_1_method_30_code
def yX11_gains : MethodName := ⟨RX11, "gains", "(II)I"⟩
abbrev cX11_better : ByteArray := prog_1_method_31_code
def yX11_better : MethodName := ⟨RX11, "better", "(II)I"⟩
abbrev cX11_agree : ByteArray := prog_1_method_32_code
def yX11_agree : MethodName := ⟨RX11, "agree", "(I)I"⟩
abbrev cX11_row : ByteArray := prog_1_method_33_code
def yX11_row : MethodName := ⟨RX11, "row", "(IIIIII)Z"⟩
abbrev cX11_chance : ByteArray := prog_1_method_34_code
def yX11_chance : MethodName := ⟨RX11, "chance", "(II)Z"⟩
abbrev cX11_taken : ByteArray := prog_1_method_35_code
def yX11_taken : MethodName := ⟨RX11, "taken", "(I)I"⟩
abbrev cX11_value : ByteArray := prog_1_method_36_code
def yX11_value : MethodName := ⟨RX11, "value", "(I)J"⟩
abbrev cX11_best : ByteArray := prog_1_method_37_code
def yX11_best : MethodName := ⟨RX11, "best", "()I"⟩
abbrev cX11_rest : ByteArray := prog_1_method_38_code
def yX11_rest : MethodName := ⟨RX11, "rest", "(I)I"⟩
abbrev cX11_found : ByteArray := prog_1_method_39_code
def yX11_found : MethodName := ⟨RX11, "found", "(II)I"⟩
abbrev cX11_mean : ByteArray := prog_1_method_40_code
def yX11_mean : MethodName := ⟨RX11, "mean", "()I"⟩
abbrev cX11_gone : ByteArray := prog_1_method_41_code
def yX11_gone : MethodName := ⟨RX11, "gone", "(I)J"⟩
abbrev cX11_like : ByteArray := prog_1_method_42_code
def yX11_like : MethodName := ⟨RX11, "like", "(I)I"⟩
abbrev cX11_tell : ByteArray := prog_1_method_43_code
def yX11_tell : MethodName := ⟨RX11, "tell", "(II)Z"⟩
abbrev cX11_came : ByteArray := prog_1_method_44_code
def yX11_came : MethodName := ⟨RX11, "came", "(II)Z"⟩
abbrev cX11_told : ByteArray := prog_1_method_45_code
def yX11_told : MethodName := ⟨RX11, "told", "(II)I"⟩
abbrev cX11_ill : ByteArray := prog_1_method_46_code
def yX11_ill : MethodName := ⟨RX11, "ill", "()I"⟩
abbrev cX11_settle : ByteArray := prog_1_method_47_code
def yX11_settle : MethodName := ⟨RX11, "settle", "()I"⟩
abbrev cX11_between : ByteArray := prog_1_method_48_code
def yX11_between : MethodName := ⟨RX11, "between", "(I)Z"⟩
abbrev cX11_round : ByteArray := prog_1_method_49_code
def yX11_round : MethodName := ⟨RX11, "round", "(II)I"⟩
abbrev cX11_swap : ByteArray := prog_1_method_50_code
def yX11_swap : MethodName := ⟨RX11, "swap", "(II)I"⟩
abbrev cX11_crowd : ByteArray := prog_1_method_51_code
def yX11_crowd : MethodName := ⟨RX11, "crowd", "()I"⟩
abbrev cX11_free : ByteArray := prog_1_method_52_code
def yX11_free : MethodName := ⟨RX11, "free", "(I)I"⟩
abbrev cX11_isOf : ByteArray := prog_1_method_53_code
def yX11_isOf : MethodName := ⟨RX11, "isOf", "(II)Z"⟩
abbrev cX11_isMinuteOrNone : ByteArray := prog_1_method_54_code
def yX11_isMinuteOrNone : MethodName := ⟨RX11, "isMinuteOrNone", "(I)Z"⟩
abbrev cX11_isSeeds : ByteArray := prog_1_method_55_code
def yX11_isSeeds : MethodName := ⟨RX11, "isSeeds", "(I)Z"⟩
abbrev cX11_isVillage : ByteArray := prog_1_method_56_code
def yX11_isVillage : MethodName := ⟨RX11, "isVillage", "(I)Z"⟩
abbrev cX11_isThing : ByteArray := prog_1_method_57_code
def yX11_isThing : MethodName := ⟨RX11, "isThing", "(II)Z"⟩
abbrev cX11_isPerson : ByteArray := prog_1_method_58_code
def yX11_isPerson : MethodName := ⟨RX11, "isPerson", "(I)Z"⟩
abbrev cX11_isPair : ByteArray := prog_1_method_59_code
def yX11_isPair : MethodName := ⟨RX11, "isPair", "(II)Z"⟩
abbrev cX11_isSortOfMorning : ByteArray := prog_1_method_60_code
def yX11_isSortOfMorning : MethodName := ⟨RX11, "isSortOfMorning", "(I)Z"⟩
abbrev cX11_isTold : ByteArray := prog_1_method_61_code
def yX11_isTold : MethodName := ⟨RX11, "isTold", "(I)Z"⟩
abbrev cX11_runPlain : ByteArray := prog_1_method_62_code
def yX11_runPlain : MethodName := ⟨RX11, "runPlain", "(I)V"⟩
abbrev cX11_runSent : ByteArray := prog_1_method_63_code
def yX11_runSent : MethodName := ⟨RX11, "runSent", "(II)V"⟩
abbrev cX11_lateBy : ByteArray := prog_1_method_64_code
def yX11_lateBy : MethodName := ⟨RX11, "lateBy", "(II)I"⟩
abbrev cX11_lateLooking : ByteArray := prog_1_method_65_code
def yX11_lateLooking : MethodName := ⟨RX11, "lateLooking", "(II)I"⟩
def RX12 : String := "ThirdComerModel"
def TX12 : u_T := fun k => match k with
  | 0 => ("ThirdComerModel", "thrown", "I", false)
  | 1 => ("ThirdComerModel", "tape", "[I", true)
  | 2 => ("ThirdComerModel", "size", "I", false)
  | 3 => ("ThirdComerModel", "at", "I", false)
  | 4 => ("ThirdComerModel", "wrong", "I", false)
  | 5 => ("ThirdComerModel", "deep", "I", false)
  | 6 => ("ThirdComerModel", "code", "[I", true)
  | 7 => ("ThirdComerModel", "value", "[I", true)
  | 8 => ("ThirdComerModel", "codes", "[I", true)
  | 9 => ("ThirdComerModel", "clauses", "[I", true)
  | 10 => ("ThirdComerModel", "testFrom", "[I", true)
  | 11 => ("ThirdComerModel", "sumFrom", "[I", true)
  | 12 => ("ThirdComerModel", "sumTo", "[I", true)
  | 13 => ("ThirdComerModel", "ways", "I", false)
  | 14 => ("ThirdComerModel", "text", "I", false)
  | 15 => ("ThirdComerModel", "letters", "[I", true)
  | 16 => ("ThirdComerModel", "stack", "[I", true)
  | 17 => ("ThirdComerModel", "things", "[I", true)
  | 18 => ("ThirdComerModel", "sorts", "[I", true)
  | 19 => ("ThirdComerModel", "people", "[I", true)
  | 20 => ("ThirdComerModel", "thing", "[I", true)
  | 21 => ("ThirdComerModel", "sort", "[I", true)
  | 22 => ("ThirdComerModel", "villages", "I", false)
  | 23 => ("ThirdComerModel", "wayOf", "[I", true)
  | 24 => ("ThirdComerModel", "went", "[I", true)
  | 25 => ("ThirdComerModel", "camein", "[I", true)
  | 26 => ("ThirdComerModel", "rank", "[I", true)
  | 27 => ("ThirdComerModel", "ofVillage", "I", false)
  | 28 => ("ThirdComerModel", "ofThing", "I", false)
  | 29 => ("ThirdComerModel", "looks", "I", false)
  | 30 => ("ThirdComerModel", "minute", "I", false)
  | 31 => ("ThirdComerModel", "came", "I", false)
  | 32 => ("ThirdComerModel", "nth", "I", false)
  | 33 => ("ThirdComerModel", "begun", "Z", false)
  | 34 => ("ThirdComerModel", "isOver", "Z", false)
  | 35 => ("ThirdComerModel", "draws", "J", false)
  | 36 => ("ThirdComerModel", "forced", "I", false)
  | 37 => ("ThirdComerModel", "strange", "I", false)
  | 38 => ("ThirdComerModel", "kept", "[I", true)
  | 39 => ("ThirdComerModel", "keptMinute", "I", false)
  | 40 => ("ThirdComerModel", "keptCame", "I", false)
  | 41 => ("ThirdComerModel", "keptOver", "Z", false)
  | 42 => ("ThirdComerModel", "keptDraws", "J", false)
  | 43 => ("ThirdComerModel", "alike", "I", false)
  | 44 => ("ThirdComerModel", "rowNth", "I", false)
  | 45 => ("ThirdComerModel", "rowWorth", "I", false)
  | 46 => ("ThirdComerModel", "rowFall", "I", false)
  | 47 => ("ThirdComerModel", "rowCost", "I", false)
  | 48 => ("ThirdComerModel", "rowMinutes", "I", false)
  | 49 => ("ThirdComerModel", "chances", "[I", true)
  | 50 => ("ThirdComerModel", "kept2", "[I", true)
  | 51 => ("ThirdComerModel", "parts", "[J", true)
  | 52 => ("ThirdComerModel", "next", "[J", true)
  | 53 => ("ThirdComerModel", "told", "[I", true)
  | 54 => ("ThirdComerModel", "keptTold", "[I", true)
  | 55 => ("ThirdComerModel", "toldVillage", "I", false)
  | 56 => ("ThirdComerModel", "toldThing", "I", false)
  | 57 => ("ThirdComerModel", "between", "I", false)
  | 58 => ("ThirdComerModel", "comesTo", "[I", true)
  | 59 => ("ThirdComerModel", "goesOnTo", "[I", true)
  | 60 => ("ThirdComerModel", "image", "[I", true)
  | 61 => ("ThirdComerModel", "imageVillage", "I", false)
  | 62 => ("ThirdComerModel", "imageThing", "I", false)
  | 63 => ("ThirdComerModel", "imageLooks", "I", false)
  | 64 => ("ThirdComerModel", "imageMinute", "I", false)
  | 65 => ("ThirdComerModel", "imageCame", "I", false)
  | 66 => ("ThirdComerModel", "imageOver", "Z", false)
  | 67 => ("ThirdComerModel", "imageDraws", "J", false)
  | 68 => ("ThirdComerModel", "mostGains", "I", false)
  | _ => ("ThirdComerModel", "keptWays", "[I", true)
def tyX12 : Nat → FieldType := fun k => match k with
  | 0 => .int
  | 1 => .array .int
  | 2 => .int
  | 3 => .int
  | 4 => .int
  | 5 => .int
  | 6 => .array .int
  | 7 => .array .int
  | 8 => .array .int
  | 9 => .array .int
  | 10 => .array .int
  | 11 => .array .int
  | 12 => .array .int
  | 13 => .int
  | 14 => .int
  | 15 => .array .int
  | 16 => .array .int
  | 17 => .array .int
  | 18 => .array .int
  | 19 => .array .int
  | 20 => .array .int
  | 21 => .array .int
  | 22 => .int
  | 23 => .array .int
  | 24 => .array .int
  | 25 => .array .int
  | 26 => .array .int
  | 27 => .int
  | 28 => .int
  | 29 => .int
  | 30 => .int
  | 31 => .int
  | 32 => .int
  | 33 => .boolean
  | 34 => .boolean
  | 35 => .long
  | 36 => .int
  | 37 => .int
  | 38 => .array .int
  | 39 => .int
  | 40 => .int
  | 41 => .boolean
  | 42 => .long
  | 43 => .int
  | 44 => .int
  | 45 => .int
  | 46 => .int
  | 47 => .int
  | 48 => .int
  | 49 => .array .int
  | 50 => .array .int
  | 51 => .array .long
  | 52 => .array .long
  | 53 => .array .int
  | 54 => .array .int
  | 55 => .int
  | 56 => .int
  | 57 => .int
  | 58 => .array .int
  | 59 => .array .int
  | 60 => .array .int
  | 61 => .int
  | 62 => .int
  | 63 => .int
  | 64 => .int
  | 65 => .int
  | 66 => .boolean
  | 67 => .long
  | 68 => .int
  | _ => .array .int
theorem nmX12 : ∀ a, a < 70 → ∀ b, b < 70 → a ≠ b → (TX12 a).2.1 ≠ (TX12 b).2.1 := by decide +kernel
theorem tyX12_ok : ∀ k, k < 70 → parseFieldDescriptor (TX12 k).2.2.1 = some (tyX12 k) := by decide +kernel
abbrev cX12_in : ByteArray := prog_14_method_1_code
def yX12_in : MethodName := ⟨RX12, "in", "(III)Z"⟩
abbrev cX12_has : ByteArray := prog_14_method_2_code
def yX12_has : MethodName := ⟨RX12, "has", "(II)Z"⟩
abbrev cX12_init : ByteArray := prog_14_method_3_code
def yX12_init : MethodName := ⟨RX12, "<init>", "()V"⟩
abbrev cX12_thrown : ByteArray := prog_14_method_4_code
def yX12_thrown : MethodName := ⟨RX12, "thrown", "()I"⟩
abbrev cX12_byteOf : ByteArray := prog_14_method_5_code
def yX12_byteOf : MethodName := ⟨RX12, "byteOf", "(IIIIII)I"⟩
abbrev cX12_feed : ByteArray := prog_14_method_6_code
def yX12_feed : MethodName := ⟨RX12, "feed", "(IIIII)I"⟩
abbrev cX12_end : ByteArray := prog_14_method_7_code
def yX12_end : MethodName := ⟨RX12, "end", "(I)Z"⟩
abbrev cX12_here : ByteArray := prog_14_method_8_code
def yX12_here : MethodName := ⟨RX12, "here", "()I"⟩
abbrev cX12_look : ByteArray := prog_14_method_9_code
def yX12_look : MethodName := ⟨RX12, "look", "()I"⟩
abbrev cX12_bad : ByteArray := prog_14_method_10_code
def yX12_bad : MethodName := ⟨RX12, "bad", "()V"⟩
abbrev cX12_isDigit : ByteArray := prog_14_method_11_code
def yX12_isDigit : MethodName := ⟨RX12, "isDigit", "(I)Z"⟩
abbrev cX12_put : ByteArray := prog_14_method_12_code
def yX12_put : MethodName := ⟨RX12, "put", "(II)V"⟩
abbrev cX12_letterOf : ByteArray := prog_14_method_13_code
def yX12_letterOf : MethodName := ⟨RX12, "letterOf", "(I)I"⟩
abbrev cX12_opens : ByteArray := prog_14_method_14_code
def yX12_opens : MethodName := ⟨RX12, "opens", "()V"⟩
abbrev cX12_closes : ByteArray := prog_14_method_15_code
def yX12_closes : MethodName := ⟨RX12, "closes", "(I)V"⟩
abbrev cX12_plainNumber : ByteArray := prog_14_method_16_code
def yX12_plainNumber : MethodName := ⟨RX12, "plainNumber", "()I"⟩
abbrev cX12_atom : ByteArray := prog_14_method_17_code
def yX12_atom : MethodName := ⟨RX12, "atom", "()V"⟩
abbrev cX12_term : ByteArray := prog_14_method_18_code
def yX12_term : MethodName := ⟨RX12, "term", "()V"⟩
abbrev cX12_sum : ByteArray := prog_14_method_19_code
def yX12_sum : MethodName := ⟨RX12, "sum", "()V"⟩
abbrev cX12_isSign : ByteArray := prog_14_method_20_code
def yX12_isSign : MethodName := ⟨RX12, "isSign", "(I)Z"⟩
abbrev cX12_compare : ByteArray := prog_14_method_21_code
def yX12_compare : MethodName := ⟨RX12, "compare", "()V"⟩
abbrev cX12_unit : ByteArray := prog_14_method_22_code
def yX12_unit : MethodName := ⟨RX12, "unit", "()V"⟩
abbrev cX12_goOnAnd : ByteArray := prog_14_method_23_code
def yX12_goOnAnd : MethodName := ⟨RX12, "goOnAnd", "()V"⟩
abbrev cX12_goOnOr : ByteArray := prog_14_method_24_code
def yX12_goOnOr : MethodName := ⟨RX12, "goOnOr", "()V"⟩
abbrev cX12_condition : ByteArray := prog_14_method_25_code
def yX12_condition : MethodName := ⟨RX12, "condition", "()V"⟩
abbrev cX12_clause : ByteArray := prog_14_method_26_code
def yX12_clause : MethodName := ⟨RX12, "clause", "()V"⟩
abbrev cX12_open : ByteArray := prog_14_method_27_code
def yX12_open : MethodName := ⟨RX12, "open", "(I)V"⟩
abbrev cX12_atEnd : ByteArray := prog_14_method_28_code
def yX12_atEnd : MethodName := ⟨RX12, "atEnd", "()I"⟩
abbrev cX12_readWay : ByteArray := prog_14_method_29_code
def yX12_readWay : MethodName := ⟨RX12, "readWay", "(I)I"⟩
abbrev cX12_bounded : ByteArray := prog_14_method_30_code
def yX12_bounded : MethodName := ⟨RX12, "bounded", "(J)I"⟩
abbrev cX12_worked : ByteArray := prog_14_method_31_code
def yX12_worked : MethodName := ⟨RX12, "worked", "(IJJ)I"⟩
abbrev cX12_workOut : ByteArray := prog_14_method_32_code
def yX12_workOut : MethodName := ⟨RX12, "workOut", "(III)I"⟩
abbrev cX12_worthOf : ByteArray := prog_14_method_33_code
def yX12_worthOf : MethodName := ⟨RX12, "worthOf", "(I)I"⟩
abbrev cX12_numberOf : ByteArray := prog_14_method_34_code
def yX12_numberOf : MethodName := ⟨RX12, "numberOf", "(ZI)I"⟩
abbrev cX12_lowest : ByteArray := prog_14_method_35_code
def yX12_lowest : MethodName := ⟨RX12, "lowest", "(ZI)I"⟩
abbrev cX12_highest : ByteArray := prog_14_method_36_code
def yX12_highest : MethodName := ⟨RX12, "highest", "(ZI)I"⟩
abbrev cX12_usual : ByteArray := prog_14_method_37_code
def yX12_usual : MethodName := ⟨RX12, "usual", "(ZI)I"⟩
abbrev cX12_part : ByteArray := prog_14_method_38_code
def yX12_part : MethodName := ⟨RX12, "part", "(I)V"⟩
abbrev cX12_number : ByteArray := prog_14_method_39_code
def yX12_number : MethodName := ⟨RX12, "number", "(II)I"⟩
abbrev cX12_readVillage : ByteArray := prog_14_method_40_code
def yX12_readVillage : MethodName := ⟨RX12, "readVillage", "(I)I"⟩
abbrev cX12_fault : ByteArray := prog_14_method_41_code
def yX12_fault : MethodName := ⟨RX12, "fault", "(I)I"⟩
abbrev cX12_text : ByteArray := prog_14_method_42_code
def yX12_text : MethodName := ⟨RX12, "text", "(I)I"⟩
abbrev cX12_isVillage : ByteArray := prog_14_method_43_code
def yX12_isVillage : MethodName := ⟨RX12, "isVillage", "(I)Z"⟩
abbrev cX12_isThing : ByteArray := prog_14_method_44_code
def yX12_isThing : MethodName := ⟨RX12, "isThing", "(II)Z"⟩
abbrev cX12_village : ByteArray := prog_14_method_45_code
def yX12_village : MethodName := ⟨RX12, "village", "(II)I"⟩
abbrev cX12_thingAt : ByteArray := prog_14_method_46_code
def yX12_thingAt : MethodName := ⟨RX12, "thingAt", "(III)I"⟩
abbrev cX12_sortAt : ByteArray := prog_14_method_47_code
def yX12_sortAt : MethodName := ⟨RX12, "sortAt", "(III)I"⟩
abbrev cX12_thing : ByteArray := prog_14_method_48_code
def yX12_thing : MethodName := ⟨RX12, "thing", "(III)I"⟩
abbrev cX12_sort : ByteArray := prog_14_method_49_code
def yX12_sort : MethodName := ⟨RX12, "sort", "(III)I"⟩
abbrev cX12_sortOf : ByteArray := prog_14_method_50_code
def yX12_sortOf : MethodName := ⟨RX12, "sortOf", "(II)I"⟩
abbrev cX12_of : ByteArray := prog_14_method_51_code
def yX12_of : MethodName := ⟨RX12, "of", "(II)I"⟩
abbrev cX12_way : ByteArray := prog_14_method_52_code
def yX12_way : MethodName := ⟨RX12, "way", "(II)Z"⟩
abbrev cX12_begin : ByteArray := prog_14_method_53_code
def yX12_begin : MethodName := ⟨RX12, "begin", "(J)V"⟩
abbrev cX12_places : ByteArray := prog_14_method_54_code
def yX12_places : MethodName := ⟨RX12, "places", "()I"⟩
abbrev cX12_many : ByteArray := prog_14_method_55_code
def yX12_many : MethodName := ⟨RX12, "many", "()I"⟩
abbrev cX12_had : ByteArray := prog_14_method_56_code
def yX12_had : MethodName := ⟨RX12, "had", "()I"⟩
abbrev cX12_comes : ByteArray := prog_14_method_57_code
def yX12_comes : MethodName := ⟨RX12, "comes", "(I)V"⟩
abbrev cX12_isWaiting : ByteArray := prog_14_method_58_code
def yX12_isWaiting : MethodName := ⟨RX12, "isWaiting", "(I)Z"⟩
abbrev cX12_isOnWay : ByteArray := prog_14_method_59_code
def yX12_isOnWay : MethodName := ⟨RX12, "isOnWay", "(I)Z"⟩
abbrev cX12_waiting : ByteArray := prog_14_method_60_code
def yX12_waiting : MethodName := ⟨RX12, "waiting", "(II)I"⟩
abbrev cX12_onWay : ByteArray := prog_14_method_61_code
def yX12_onWay : MethodName := ⟨RX12, "onWay", "()I"⟩
abbrev cX12_draw : ByteArray := prog_14_method_62_code
def yX12_draw : MethodName := ⟨RX12, "draw", "()I"⟩
abbrev cX12_goesNow : ByteArray := prog_14_method_63_code
def yX12_goesNow : MethodName := ⟨RX12, "goesNow", "(I)Z"⟩
abbrev cX12_minuteOnce : ByteArray := prog_14_method_64_code
def yX12_minuteOnce : MethodName := ⟨RX12, "minuteOnce", "()Z"⟩
abbrev cX12_whole : ByteArray := prog_14_method_65_code
def yX12_whole : MethodName := ⟨RX12, "whole", "(J)V"⟩
abbrev cX12_start : ByteArray := prog_14_method_66_code
def yX12_start : MethodName := ⟨RX12, "start", "(IIIJ)Z"⟩
abbrev cX12_minutes : ByteArray := prog_14_method_67_code
def yX12_minutes : MethodName := ⟨RX12, "minutes", "(I)I"⟩
abbrev cX12_hasPlace : ByteArray := prog_14_method_68_code
def yX12_hasPlace : MethodName := ⟨RX12, "hasPlace", "(I)Z"⟩
abbrev cX12_gain : ByteArray := prog_14_method_69_code
def yX12_gain : MethodName := ⟨RX12, "gain", "(I)I"⟩
abbrev cX12_isPerson : ByteArray := prog_14_method_70_code
def yX12_isPerson : MethodName := ⟨RX12, "isPerson", "(I)Z"⟩
abbrev cX12_who : ByteArray := prog_14_method_71_code
def yX12_who : MethodName := ⟨RX12, "who", "(II)I"⟩
abbrev cX12_fullAt : ByteArray := prog_14_method_72_code
def yX12_fullAt : MethodName := ⟨RX12, "fullAt", "()I"⟩
abbrev cX12_lastWho : ByteArray := prog_14_method_73_code
def yX12_lastWho : MethodName := ⟨RX12, "lastWho", "()I"⟩
abbrev cX12_about : ByteArray := prog_14_method_74_code
def yX12_about : MethodName := ⟨RX12, "about", "(I)I"⟩
abbrev cX12_keepTo : ByteArray := prog_14_method_75_code
def yX12_keepTo : MethodName := ⟨RX12, "keepTo", "([I)V"⟩
abbrev cX12_takeFrom : ByteArray := prog_14_method_76_code
def yX12_takeFrom : MethodName := ⟨RX12, "takeFrom", "([I)V"⟩
abbrev cX12_putAside : ByteArray := prog_14_method_77_code
def yX12_putAside : MethodName := ⟨RX12, "putAside", "()V"⟩
abbrev cX12_takeBack : ByteArray := prog_14_method_78_code
def yX12_takeBack : MethodName := ⟨RX12, "takeBack", "()V"⟩
abbrev cX12_areSeeds : ByteArray := prog_14_method_79_code
def yX12_areSeeds : MethodName := ⟨RX12, "areSeeds", "(I)Z"⟩
abbrev cX12_over : ByteArray := prog_14_method_80_code
def yX12_over : MethodName := ⟨RX12, "over", "(III)I"⟩
abbrev cX12_allAtOnce : ByteArray := prog_14_method_81_code
def yX12_allAtOnce : MethodName := ⟨RX12, "allAtOnce", "()Z"⟩
abbrev cX12_odds : ByteArray := prog_14_method_82_code
def yX12_odds : MethodName := ⟨RX12, "odds", "(III)I"⟩
abbrev cX12_law : ByteArray := prog_14_method_83_code
def yX12_law : MethodName := ⟨RX12, "law", "(II)I"⟩
abbrev cX12_which : ByteArray := prog_14_method_84_code
def yX12_which : MethodName := ⟨RX12, "which", "(I)I"⟩
abbrev cX12_quiet : ByteArray := prog_14_method_85_code
def yX12_quiet : MethodName := ⟨RX12, "quiet", "(I)I"⟩
abbrev cX12_pay : ByteArray := prog_14_method_86_code
def yX12_pay : MethodName := ⟨RX12, "pay", "(III)I"⟩
abbrev cX12_price : ByteArray := prog_14_method_87_code
def yX12_price : MethodName := ⟨RX12, "price", "(II)I"⟩
abbrev cX12_strangers : ByteArray := prog_14_method_88_code
def yX12_strangers : MethodName := ⟨RX12, "strangers", "(II)I"⟩
abbrev cX12_row : ByteArray := prog_14_method_89_code
def yX12_row : MethodName := ⟨RX12, "row", "(IIIIII)Z"⟩
abbrev cX12_chance : ByteArray := prog_14_method_90_code
def yX12_chance : MethodName := ⟨RX12, "chance", "(II)Z"⟩
abbrev cX12_power : ByteArray := prog_14_method_91_code
def yX12_power : MethodName := ⟨RX12, "power", "(II)J"⟩
abbrev cX12_choose : ByteArray := prog_14_method_92_code
def yX12_choose : MethodName := ⟨RX12, "choose", "(II)J"⟩
abbrev cX12_more : ByteArray := prog_14_method_93_code
def yX12_more : MethodName := ⟨RX12, "more", "(IIII)J"⟩
abbrev cX12_firstParts : ByteArray := prog_14_method_94_code
def yX12_firstParts : MethodName := ⟨RX12, "firstParts", "()V"⟩
abbrev cX12_nextParts : ByteArray := prog_14_method_95_code
def yX12_nextParts : MethodName := ⟨RX12, "nextParts", "(II)V"⟩
abbrev cX12_takenIn : ByteArray := prog_14_method_96_code
def yX12_takenIn : MethodName := ⟨RX12, "takenIn", "(I)J"⟩
abbrev cX12_taken : ByteArray := prog_14_method_97_code
def yX12_taken : MethodName := ⟨RX12, "taken", "(I)I"⟩
abbrev cX12_valueOf : ByteArray := prog_14_method_98_code
def yX12_valueOf : MethodName := ⟨RX12, "valueOf", "(I)J"⟩
abbrev cX12_value : ByteArray := prog_14_method_99_code
def yX12_value : MethodName := ⟨RX12, "value", "(I)J"⟩
abbrev cX12_bestOf : ByteArray := prog_14_method_100_code
def yX12_bestOf : MethodName := ⟨RX12, "bestOf", "()I"⟩
abbrev cX12_best : ByteArray := prog_14_method_101_code
def yX12_best : MethodName := ⟨RX12, "best", "()I"⟩
abbrev cX12_rests : ByteArray := prog_14_method_102_code
def yX12_rests : MethodName := ⟨RX12, "rests", "(I)Z"⟩
abbrev cX12_rest : ByteArray := prog_14_method_103_code
def yX12_rest : MethodName := ⟨RX12, "rest", "(I)I"⟩
abbrev cX12_found : ByteArray := prog_14_method_104_code
def yX12_found : MethodName := ⟨RX12, "found", "(II)I"⟩
abbrev cX12_tell : ByteArray := prog_14_method_105_code
def yX12_tell : MethodName := ⟨RX12, "tell", "(II)Z"⟩
abbrev cX12_isTold : ByteArray := prog_14_method_106_code
def yX12_isTold : MethodName := ⟨RX12, "isTold", "(I)Z"⟩
abbrev cX12_came : ByteArray := prog_14_method_107_code
def yX12_came : MethodName := ⟨RX12, "came", "(II)Z"⟩
abbrev cX12_toldRank : ByteArray := prog_14_method_108_code
def yX12_toldRank : MethodName := ⟨RX12, "toldRank", "(I)I"⟩
abbrev cX12_toldGain : ByteArray := prog_14_method_109_code
def yX12_toldGain : MethodName := ⟨RX12, "toldGain", "(I)I"⟩
abbrev cX12_answer : ByteArray := prog_14_method_110_code
def yX12_answer : MethodName := ⟨RX12, "answer", "(I)I"⟩
abbrev cX12_regret : ByteArray := prog_14_method_111_code
def yX12_regret : MethodName := ⟨RX12, "regret", "(I)I"⟩
abbrev cX12_told : ByteArray := prog_14_method_112_code
def yX12_told : MethodName := ⟨RX12, "told", "(II)I"⟩
abbrev cX12_ill : ByteArray := prog_14_method_113_code
def yX12_ill : MethodName := ⟨RX12, "ill", "()I"⟩
abbrev cX12_settle : ByteArray := prog_14_method_114_code
def yX12_settle : MethodName := ⟨RX12, "settle", "()I"⟩
abbrev cX12_between : ByteArray := prog_14_method_115_code
def yX12_between : MethodName := ⟨RX12, "between", "(I)Z"⟩
abbrev cX12_rankAmong : ByteArray := prog_14_method_116_code
def yX12_rankAmong : MethodName := ⟨RX12, "rankAmong", "(I)I"⟩
abbrev cX12_round : ByteArray := prog_14_method_117_code
def yX12_round : MethodName := ⟨RX12, "round", "(II)I"⟩
abbrev cX12_image : ByteArray := prog_14_method_118_code
def yX12_image : MethodName := ⟨RX12, "image", "()I"⟩
abbrev cX12_back : ByteArray := prog_14_method_119_code
def yX12_back : MethodName := ⟨RX12, "back", "()I"⟩
abbrev cX12_ends : ByteArray := prog_14_method_120_code
def yX12_ends : MethodName := ⟨RX12, "ends", "(II)I"⟩
abbrev cX12_both : ByteArray := prog_14_method_121_code
def yX12_both : MethodName := ⟨RX12, "both", "(III)I"⟩
abbrev cX12_kin : ByteArray := prog_14_method_122_code
def yX12_kin : MethodName := ⟨RX12, "kin", "(III)I"⟩
abbrev cX12_seen : ByteArray := prog_14_method_123_code
def yX12_seen : MethodName := ⟨RX12, "seen", "(I)I"⟩
abbrev cX12_gainsOf : ByteArray := prog_14_method_124_code
def yX12_gainsOf : MethodName := ⟨RX12, "gainsOf", "(II)I"⟩
abbrev cX12_isSort : ByteArray := prog_14_method_125_code
def yX12_isSort : MethodName := ⟨RX12, "isSort", "(I)Z"⟩
abbrev cX12_gains : ByteArray := prog_14_method_126_code
def yX12_gains : MethodName := ⟨RX12, "gains", "(II)I"⟩
abbrev cX12_betterOf : ByteArray := prog_14_method_127_code
def yX12_betterOf : MethodName := ⟨RX12, "betterOf", "(II)I"⟩
abbrev cX12_better : ByteArray := prog_14_method_128_code
def yX12_better : MethodName := ⟨RX12, "better", "(II)I"⟩
abbrev cX12_agree : ByteArray := prog_14_method_129_code
def yX12_agree : MethodName := ⟨RX12, "agree", "(I)I"⟩
abbrev cX12_wayOf : ByteArray := prog_14_method_130_code
def yX12_wayOf : MethodName := ⟨RX12, "wayOf", "(I)I"⟩
abbrev cX12_mean : ByteArray := prog_14_method_131_code
def yX12_mean : MethodName := ⟨RX12, "mean", "()I"⟩
abbrev cX12_gone : ByteArray := prog_14_method_132_code
def yX12_gone : MethodName := ⟨RX12, "gone", "(I)J"⟩
abbrev cX12_takenBy : ByteArray := prog_14_method_133_code
def yX12_takenBy : MethodName := ⟨RX12, "takenBy", "(I)J"⟩
abbrev cX12_like : ByteArray := prog_14_method_134_code
def yX12_like : MethodName := ⟨RX12, "like", "(I)I"⟩
abbrev cX12_swap : ByteArray := prog_14_method_135_code
def yX12_swap : MethodName := ⟨RX12, "swap", "(II)I"⟩
abbrev cX12_crowd : ByteArray := prog_14_method_136_code
def yX12_crowd : MethodName := ⟨RX12, "crowd", "()I"⟩
abbrev cX12_free : ByteArray := prog_14_method_137_code
def yX12_free : MethodName := ⟨RX12, "free", "(I)I"⟩
abbrev cX12_count : ByteArray := prog_14_method_138_code
def yX12_count : MethodName := ⟨RX12, "count", "(I)I"⟩
def RJx145de : String := "java/io/Serializable"
def TJx145de : u_T := fun k => match k with
  | _ => ("", "", "", false)
def tyJx145de : Nat → FieldType := fun k => match k with
  | _ => .int
theorem nmJx145de : ∀ a, a < 0 → ∀ b, b < 0 → a ≠ b → (TJx145de a).2.1 ≠ (TJx145de b).2.1 := by decide +kernel
theorem tyJx145de_ok : ∀ k, k < 0 → parseFieldDescriptor (TJx145de k).2.2.1 = some (tyJx145de k) := by decide +kernel
def RJx9f9b0 : String := "java/lang/CharSequence"
def TJx9f9b0 : u_T := fun k => match k with
  | _ => ("", "", "", false)
def tyJx9f9b0 : Nat → FieldType := fun k => match k with
  | _ => .int
theorem nmJx9f9b0 : ∀ a, a < 0 → ∀ b, b < 0 → a ≠ b → (TJx9f9b0 a).2.1 ≠ (TJx9f9b0 b).2.1 := by decide +kernel
theorem tyJx9f9b0_ok : ∀ k, k < 0 → parseFieldDescriptor (TJx9f9b0 k).2.2.1 = some (tyJx9f9b0 k) := by decide +kernel
def RJ11 : String := "java/lang/Character"
def TJ11 : u_T := fun k => match k with
  | _ => ("", "", "", false)
def tyJ11 : Nat → FieldType := fun k => match k with
  | _ => .int
theorem nmJ11 : ∀ a, a < 0 → ∀ b, b < 0 → a ≠ b → (TJ11 a).2.1 ≠ (TJ11 b).2.1 := by decide +kernel
theorem tyJ11_ok : ∀ k, k < 0 → parseFieldDescriptor (TJ11 k).2.2.1 = some (tyJ11 k) := by decide +kernel
abbrev cJ11_isValidCodePoint_9a6ad : ByteArray := prog_17_method_11_code
def yJ11_isValidCodePoint_9a6ad : MethodName := ⟨RJ11, "isValidCodePoint", "(I)Z"⟩
abbrev cJ11_highSurrogate_5068e : ByteArray := prog_17_method_28_code
def yJ11_highSurrogate_5068e : MethodName := ⟨RJ11, "highSurrogate", "(I)C"⟩
abbrev cJ11_lowSurrogate_5068e : ByteArray := prog_17_method_29_code
def yJ11_lowSurrogate_5068e : MethodName := ⟨RJ11, "lowSurrogate", "(I)C"⟩
def RJxb160c : String := "java/lang/Comparable"
def TJxb160c : u_T := fun k => match k with
  | _ => ("", "", "", false)
def tyJxb160c : Nat → FieldType := fun k => match k with
  | _ => .int
theorem nmJxb160c : ∀ a, a < 0 → ∀ b, b < 0 → a ≠ b → (TJxb160c a).2.1 ≠ (TJxb160c b).2.1 := by decide +kernel
theorem tyJxb160c_ok : ∀ k, k < 0 → parseFieldDescriptor (TJxb160c k).2.2.1 = some (tyJxb160c k) := by decide +kernel
def RJ9 : String := "java/lang/Math"
def TJ9 : u_T := fun k => match k with
  | _ => ("", "", "", false)
def tyJ9 : Nat → FieldType := fun k => match k with
  | _ => .int
theorem nmJ9 : ∀ a, a < 0 → ∀ b, b < 0 → a ≠ b → (TJ9 a).2.1 ≠ (TJ9 b).2.1 := by decide +kernel
theorem tyJ9_ok : ∀ k, k < 0 → parseFieldDescriptor (TJ9 k).2.2.1 = some (tyJ9 k) := by decide +kernel
abbrev cJ9_max_7cf53 : ByteArray := prog_20_method_65_code
def yJ9_max_7cf53 : MethodName := ⟨RJ9, "max", "(II)I"⟩
abbrev cJ9_max_f86c9 : ByteArray := prog_20_method_66_code
def yJ9_max_f86c9 : MethodName := ⟨RJ9, "max", "(JJ)J"⟩
abbrev cJ9_min_7cf53 : ByteArray := prog_20_method_69_code
def yJ9_min_7cf53 : MethodName := ⟨RJ9, "min", "(II)I"⟩
abbrev cJ9_min_f86c9 : ByteArray := prog_20_method_70_code
def yJ9_min_f86c9 : MethodName := ⟨RJ9, "min", "(JJ)J"⟩
def RJ0 : String := "java/lang/String"
def TJ0 : u_T := fun k => match k with
  | _ => ("", "", "", false)
def tyJ0 : Nat → FieldType := fun k => match k with
  | _ => .int
theorem nmJ0 : ∀ a, a < 0 → ∀ b, b < 0 → a ≠ b → (TJ0 a).2.1 ≠ (TJ0 b).2.1 := by decide +kernel
theorem tyJ0_ok : ∀ k, k < 0 → parseFieldDescriptor (TJ0 k).2.2.1 = some (tyJ0 k) := by decide +kernel
abbrev cJ0_length_8abf5 : ByteArray := prog_22_method_54_code
def yJ0_length_8abf5 : MethodName := ⟨RJ0, "length", "()I"⟩
abbrev cJ0_indexOf_0f7a4 : ByteArray := prog_22_method_79_code
def yJ0_indexOf_0f7a4 : MethodName := ⟨RJ0, "indexOf", "(I)I"⟩
abbrev cJ0_indexOf_7cf53 : ByteArray := prog_22_method_80_code
def yJ0_indexOf_7cf53 : MethodName := ⟨RJ0, "indexOf", "(II)I"⟩
abbrev cJ0_coder_7d493 : ByteArray := prog_22_method_152_code
def yJ0_coder_7d493 : MethodName := ⟨RJ0, "coder", "()B"⟩
abbrev cJ0_isLatin1_aae02 : ByteArray := prog_22_method_154_code
def yJ0_isLatin1_aae02 : MethodName := ⟨RJ0, "isLatin1", "()Z"⟩
abbrev cJ0_checkBoundsBeginEnd_23922 : ByteArray := prog_22_method_158_code
def yJ0_checkBoundsBeginEnd_23922 : MethodName := ⟨RJ0, "checkBoundsBeginEnd", "(III)V"⟩
def RJ1 : String := "java/lang/StringLatin1"
def TJ1 : u_T := fun k => match k with
  | _ => ("", "", "", false)
def tyJ1 : Nat → FieldType := fun k => match k with
  | _ => .int
theorem nmJ1 : ∀ a, a < 0 → ∀ b, b < 0 → a ≠ b → (TJ1 a).2.1 ≠ (TJ1 b).2.1 := by decide +kernel
theorem tyJ1_ok : ∀ k, k < 0 → parseFieldDescriptor (TJ1 k).2.2.1 = some (tyJ1 k) := by decide +kernel
abbrev cJ1_canEncode_9a6ad : ByteArray := prog_23_method_4_code
def yJ1_canEncode_9a6ad : MethodName := ⟨RJ1, "canEncode", "(I)Z"⟩
abbrev cJ1_indexOf_4cfef : ByteArray := prog_23_method_22_code
def yJ1_indexOf_4cfef : MethodName := ⟨RJ1, "indexOf", "([BIII)I"⟩
abbrev cJ1_indexOfChar_4cfef : ByteArray := prog_23_method_23_code
def yJ1_indexOfChar_4cfef : MethodName := ⟨RJ1, "indexOfChar", "([BIII)I"⟩
def RJ2 : String := "java/lang/StringUTF16"
def TJ2 : u_T := fun k => match k with
  | _ => ("", "", "", false)
def tyJ2 : Nat → FieldType := fun k => match k with
  | _ => .int
theorem nmJ2 : ∀ a, a < 0 → ∀ b, b < 0 → a ≠ b → (TJ2 a).2.1 ≠ (TJ2 b).2.1 := by decide +kernel
theorem tyJ2_ok : ∀ k, k < 0 → parseFieldDescriptor (TJ2 k).2.2.1 = some (tyJ2 k) := by decide +kernel
abbrev cJ2_getChar_3b067 : ByteArray := prog_24_method_5_code
def yJ2_getChar_3b067 : MethodName := ⟨RJ2, "getChar", "([BI)C"⟩
abbrev cJ2_length_9d52b : ByteArray := prog_24_method_6_code
def yJ2_length_9d52b : MethodName := ⟨RJ2, "length", "([B)I"⟩
abbrev cJ2_indexOf_4cfef : ByteArray := prog_24_method_40_code
def yJ2_indexOf_4cfef : MethodName := ⟨RJ2, "indexOf", "([BIII)I"⟩
abbrev cJ2_indexOfChar_4cfef : ByteArray := prog_24_method_47_code
def yJ2_indexOfChar_4cfef : MethodName := ⟨RJ2, "indexOfChar", "([BIII)I"⟩
abbrev cJ2_indexOfCharUnsafe_4cfef : ByteArray := prog_24_method_48_code
def yJ2_indexOfCharUnsafe_4cfef : MethodName := ⟨RJ2, "indexOfCharUnsafe", "([BIII)I"⟩
abbrev cJ2_indexOfSupplementary_4cfef : ByteArray := prog_24_method_49_code
def yJ2_indexOfSupplementary_4cfef : MethodName := ⟨RJ2, "indexOfSupplementary", "([BIII)I"⟩
abbrev cJ2_checkBoundsBeginEnd_d044e : ByteArray := prog_24_method_93_code
def yJ2_checkBoundsBeginEnd_d044e : MethodName := ⟨RJ2, "checkBoundsBeginEnd", "(II[B)V"⟩
def RJ10 : String := "java/lang/System"
def TJ10 : u_T := fun k => match k with
  | _ => ("", "", "", false)
def tyJ10 : Nat → FieldType := fun k => match k with
  | _ => .int
theorem nmJ10 : ∀ a, a < 0 → ∀ b, b < 0 → a ≠ b → (TJ10 a).2.1 ≠ (TJ10 b).2.1 := by decide +kernel
theorem tyJ10_ok : ∀ k, k < 0 → parseFieldDescriptor (TJ10 k).2.2.1 = some (tyJ10 k) := by decide +kernel
def RJxfd54e : String := "java/lang/constant/Constable"
def TJxfd54e : u_T := fun k => match k with
  | _ => ("", "", "", false)
def tyJxfd54e : Nat → FieldType := fun k => match k with
  | _ => .int
theorem nmJxfd54e : ∀ a, a < 0 → ∀ b, b < 0 → a ≠ b → (TJxfd54e a).2.1 ≠ (TJxfd54e b).2.1 := by decide +kernel
theorem tyJxfd54e_ok : ∀ k, k < 0 → parseFieldDescriptor (TJxfd54e k).2.2.1 = some (tyJxfd54e k) := by decide +kernel
def RJx3cf43 : String := "java/lang/constant/ConstantDesc"
def TJx3cf43 : u_T := fun k => match k with
  | _ => ("", "", "", false)
def tyJx3cf43 : Nat → FieldType := fun k => match k with
  | _ => .int
theorem nmJx3cf43 : ∀ a, a < 0 → ∀ b, b < 0 → a ≠ b → (TJx3cf43 a).2.1 ≠ (TJx3cf43 b).2.1 := by decide +kernel
theorem tyJx3cf43_ok : ∀ k, k < 0 → parseFieldDescriptor (TJx3cf43 k).2.2.1 = some (tyJx3cf43 k) := by decide +kernel
def RJ7 : String := "java/util/Arrays"
def TJ7 : u_T := fun k => match k with
  | _ => ("", "", "", false)
def tyJ7 : Nat → FieldType := fun k => match k with
  | _ => .int
theorem nmJ7 : ∀ a, a < 0 → ∀ b, b < 0 → a ≠ b → (TJ7 a).2.1 ≠ (TJ7 b).2.1 := by decide +kernel
theorem tyJ7_ok : ∀ k, k < 0 → parseFieldDescriptor (TJ7 k).2.2.1 = some (tyJ7 k) := by decide +kernel
abbrev cJ7_rangeCheck_23922 : ByteArray := prog_29_method_30_code
def yJ7_rangeCheck_23922 : MethodName := ⟨RJ7, "rangeCheck", "(III)V"⟩
abbrev cJ7_fill_d0a16 : ByteArray := prog_29_method_101_code
def yJ7_fill_d0a16 : MethodName := ⟨RJ7, "fill", "([JJ)V"⟩
abbrev cJ7_fill_53178 : ByteArray := prog_29_method_103_code
def yJ7_fill_53178 : MethodName := ⟨RJ7, "fill", "([II)V"⟩
abbrev cJ7_fill_fda19 : ByteArray := prog_29_method_104_code
def yJ7_fill_fda19 : MethodName := ⟨RJ7, "fill", "([IIII)V"⟩
def RJ3 : String := "jdk/internal/util/Preconditions"
def TJ3 : u_T := fun k => match k with
  | _ => ("", "", "", false)
def tyJ3 : Nat → FieldType := fun k => match k with
  | _ => .int
theorem nmJ3 : ∀ a, a < 0 → ∀ b, b < 0 → a ≠ b → (TJ3 a).2.1 ≠ (TJ3 b).2.1 := by decide +kernel
theorem tyJ3_ok : ∀ k, k < 0 → parseFieldDescriptor (TJ3 k).2.2.1 = some (tyJ3 k) := by decide +kernel
abbrev cJ3_checkFromToIndex_8c36e : ByteArray := prog_31_method_12_code
def yJ3_checkFromToIndex_8c36e : MethodName := ⟨RJ3, "checkFromToIndex", "(IIILjava/util/function/BiFunction;)I"⟩
def RL : String := "ThirdComerLaw"
abbrev cL_village : ByteArray := method_3_code
def yL_village : MethodName := ⟨RL, "village", "(LThirdComer;II[J)I"⟩
abbrev cL_value : ByteArray := method_4_code
def yL_value : MethodName := ⟨RL, "value", "(LThirdComer;I[J)I"⟩
abbrev cL_law : ByteArray := code
def yL_law : MethodName := ⟨RL, "law", "([I)Z"⟩
abbrev vwCl : List vw_C := [(RX0, TX0, 6), (RX1, TX1, 18), (RX2, TX2, 18), (RX3, TX3, 8), (RX4, TX4, 4), (RX5, TX5, 6), (RX6, TX6, 5), (RX7, TX7, 6), (RX8, TX8, 1), (RX9, TX9, 3), (RX10, TX10, 2), (RX11, TX11, 13), (RX12, TX12, 70)]
