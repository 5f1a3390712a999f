section
-- ===== PART A: goes FIRST, ahead of the names: the tables' words, and 'selects' of the private methods out of them =====
/-- a private method of a class that the tables say can be made, by its rows of tables_1 -/
def lw_okq (q : MethodName × Nat) : Prop := (q.1.cls ≠ "java/lang/invoke/MethodHandle" ∧ q.1.cls ≠ "java/lang/invoke/VarHandle") ∧ Cond.instantiable q.1.cls q.2 ∈ tables_1 ∧ Cond.privateMethod q.1 ∈ tables_1 ∧ Cond.instanceMethod q.1 ∈ tables_1
theorem lw_p0 : lw_okq (⟨"DialMenus$ListReader", "fitsFrequency", "(II)Z"⟩, 6) := ⟨⟨by decide +kernel, by decide +kernel⟩, List.mem_of_getElem? (i := 78) (by decide +kernel), List.mem_of_getElem? (i := 272) (by decide +kernel), List.mem_of_getElem? (i := 273) (by decide +kernel)⟩
theorem lw_p1 : lw_okq (⟨"DialMenus$ListReader", "frequencyOf", "(I)I"⟩, 6) := ⟨⟨by decide +kernel, by decide +kernel⟩, List.mem_of_getElem? (i := 78) (by decide +kernel), List.mem_of_getElem? (i := 276) (by decide +kernel), List.mem_of_getElem? (i := 277) (by decide +kernel)⟩
theorem lw_p2 : lw_okq (⟨"DialMenus$ListReader", "fitsName", "(LDialMenus$Row;I)Z"⟩, 6) := ⟨⟨by decide +kernel, by decide +kernel⟩, List.mem_of_getElem? (i := 78) (by decide +kernel), List.mem_of_getElem? (i := 280) (by decide +kernel), List.mem_of_getElem? (i := 281) (by decide +kernel)⟩
theorem lw_p3 : lw_okq (⟨"DialMenus$ListReader", "endsName", "(LDialMenus$Row;I)Z"⟩, 6) := ⟨⟨by decide +kernel, by decide +kernel⟩, List.mem_of_getElem? (i := 78) (by decide +kernel), List.mem_of_getElem? (i := 284) (by decide +kernel), List.mem_of_getElem? (i := 285) (by decide +kernel)⟩
theorem lw_p4 : lw_okq (⟨"DialMenus$ListReader", "isListed", "(LDialMenus$Row;I)Z"⟩, 6) := ⟨⟨by decide +kernel, by decide +kernel⟩, List.mem_of_getElem? (i := 78) (by decide +kernel), List.mem_of_getElem? (i := 288) (by decide +kernel), List.mem_of_getElem? (i := 289) (by decide +kernel)⟩
theorem lw_p5 : lw_okq (⟨"DialMenus$ListReader", "isSameText", "(LDialMenus$Row;II)Z"⟩, 6) := ⟨⟨by decide +kernel, by decide +kernel⟩, List.mem_of_getElem? (i := 78) (by decide +kernel), List.mem_of_getElem? (i := 292) (by decide +kernel), List.mem_of_getElem? (i := 293) (by decide +kernel)⟩
theorem lw_p6 : lw_okq (⟨"DialMenus", "isAnyItemKnown", "()Z"⟩, 15) := ⟨⟨by decide +kernel, by decide +kernel⟩, List.mem_of_getElem? (i := 16) (by decide +kernel), List.mem_of_getElem? (i := 304) (by decide +kernel), List.mem_of_getElem? (i := 305) (by decide +kernel)⟩
theorem lw_p7 : lw_okq (⟨"DialMenus$Roster", "placeOf", "(LDialMenus$Entry;)I"⟩, 2) := ⟨⟨by decide +kernel, by decide +kernel⟩, List.mem_of_getElem? (i := 63) (by decide +kernel), List.mem_of_getElem? (i := 370) (by decide +kernel), List.mem_of_getElem? (i := 371) (by decide +kernel)⟩
theorem lw_p8 : lw_okq (⟨"DialMenus$Roster", "get", "(I)LDialMenus$Entry;"⟩, 2) := ⟨⟨by decide +kernel, by decide +kernel⟩, List.mem_of_getElem? (i := 63) (by decide +kernel), List.mem_of_getElem? (i := 405) (by decide +kernel), List.mem_of_getElem? (i := 406) (by decide +kernel)⟩
theorem lw_p9 : lw_okq (⟨"DialMenus$Choices", "twinsBelow", "(LDialMenus$Roster;II)I"⟩, 1) := ⟨⟨by decide +kernel, by decide +kernel⟩, List.mem_of_getElem? (i := 103) (by decide +kernel), List.mem_of_getElem? (i := 439) (by decide +kernel), List.mem_of_getElem? (i := 440) (by decide +kernel)⟩
theorem lw_p10 : lw_okq (⟨"DialMenus$Choices", "areTwins", "(LDialMenus$Roster;II)Z"⟩, 1) := ⟨⟨by decide +kernel, by decide +kernel⟩, List.mem_of_getElem? (i := 103) (by decide +kernel), List.mem_of_getElem? (i := 443) (by decide +kernel), List.mem_of_getElem? (i := 444) (by decide +kernel)⟩
theorem lw_p11 : lw_okq (⟨"DialMenus$Menu", "has", "(I)Z"⟩, 6) := ⟨⟨by decide +kernel, by decide +kernel⟩, List.mem_of_getElem? (i := 160) (by decide +kernel), List.mem_of_getElem? (i := 481) (by decide +kernel), List.mem_of_getElem? (i := 482) (by decide +kernel)⟩
theorem lw_p12 : lw_okq (⟨"DialMenus", "optimal", "(I)LDialMenus$Menu;"⟩, 15) := ⟨⟨by decide +kernel, by decide +kernel⟩, List.mem_of_getElem? (i := 16) (by decide +kernel), List.mem_of_getElem? (i := 485) (by decide +kernel), List.mem_of_getElem? (i := 486) (by decide +kernel)⟩
theorem lw_p13 : lw_okq (⟨"DialMenus$Planner", "planRun", "(III)V"⟩, 4) := ⟨⟨by decide +kernel, by decide +kernel⟩, List.mem_of_getElem? (i := 139) (by decide +kernel), List.mem_of_getElem? (i := 496) (by decide +kernel), List.mem_of_getElem? (i := 497) (by decide +kernel)⟩
theorem lw_p14 : lw_okq (⟨"DialMenus$Planner", "planParts", "(III)V"⟩, 4) := ⟨⟨by decide +kernel, by decide +kernel⟩, List.mem_of_getElem? (i := 139) (by decide +kernel), List.mem_of_getElem? (i := 503) (by decide +kernel), List.mem_of_getElem? (i := 504) (by decide +kernel)⟩
theorem lw_p15 : lw_okq (⟨"DialMenus$Planner", "layPath", "(LDialMenus$Menu;II)V"⟩, 4) := ⟨⟨by decide +kernel, by decide +kernel⟩, List.mem_of_getElem? (i := 139) (by decide +kernel), List.mem_of_getElem? (i := 516) (by decide +kernel), List.mem_of_getElem? (i := 517) (by decide +kernel)⟩
def lw_privs_1 : List (MethodName × Nat) := [(⟨"DialMenus$ListReader", "fitsFrequency", "(II)Z"⟩, 6), (⟨"DialMenus$ListReader", "frequencyOf", "(I)I"⟩, 6), (⟨"DialMenus$ListReader", "fitsName", "(LDialMenus$Row;I)Z"⟩, 6), (⟨"DialMenus$ListReader", "endsName", "(LDialMenus$Row;I)Z"⟩, 6), (⟨"DialMenus$ListReader", "isListed", "(LDialMenus$Row;I)Z"⟩, 6), (⟨"DialMenus$ListReader", "isSameText", "(LDialMenus$Row;II)Z"⟩, 6), (⟨"DialMenus", "isAnyItemKnown", "()Z"⟩, 15), (⟨"DialMenus$Roster", "placeOf", "(LDialMenus$Entry;)I"⟩, 2), (⟨"DialMenus$Roster", "get", "(I)LDialMenus$Entry;"⟩, 2), (⟨"DialMenus$Choices", "twinsBelow", "(LDialMenus$Roster;II)I"⟩, 1), (⟨"DialMenus$Choices", "areTwins", "(LDialMenus$Roster;II)Z"⟩, 1), (⟨"DialMenus$Menu", "has", "(I)Z"⟩, 6), (⟨"DialMenus", "optimal", "(I)LDialMenus$Menu;"⟩, 15), (⟨"DialMenus$Planner", "planRun", "(III)V"⟩, 4), (⟨"DialMenus$Planner", "planParts", "(III)V"⟩, 4), (⟨"DialMenus$Planner", "layPath", "(LDialMenus$Menu;II)V"⟩, 4)]
theorem lw_r1 : ∀ q ∈ lw_privs_1, lw_okq q := List.forall_mem_cons.mpr ⟨lw_p0, List.forall_mem_cons.mpr ⟨lw_p1, List.forall_mem_cons.mpr ⟨lw_p2, List.forall_mem_cons.mpr ⟨lw_p3, List.forall_mem_cons.mpr ⟨lw_p4, List.forall_mem_cons.mpr ⟨lw_p5, List.forall_mem_cons.mpr ⟨lw_p6, List.forall_mem_cons.mpr ⟨lw_p7, List.forall_mem_cons.mpr ⟨lw_p8, List.forall_mem_cons.mpr ⟨lw_p9, List.forall_mem_cons.mpr ⟨lw_p10, List.forall_mem_cons.mpr ⟨lw_p11, List.forall_mem_cons.mpr ⟨lw_p12, List.forall_mem_cons.mpr ⟨lw_p13, List.forall_mem_cons.mpr ⟨lw_p14, List.forall_mem_cons.mpr ⟨lw_p15, fun _ h => absurd h List.not_mem_nil⟩⟩⟩⟩⟩⟩⟩⟩⟩⟩⟩⟩⟩⟩⟩⟩
theorem lw_p16 : lw_okq (⟨"DialMenus$Choices", "placeInList", "(LDialMenus$Roster;I)I"⟩, 1) := ⟨⟨by decide +kernel, by decide +kernel⟩, List.mem_of_getElem? (i := 103) (by decide +kernel), List.mem_of_getElem? (i := 629) (by decide +kernel), List.mem_of_getElem? (i := 630) (by decide +kernel)⟩
theorem lw_p17 : lw_okq (⟨"DialMenus$Readings", "studyDigit", "(I)V"⟩, 5) := ⟨⟨by decide +kernel, by decide +kernel⟩, List.mem_of_getElem? (i := 115) (by decide +kernel), List.mem_of_getElem? (i := 649) (by decide +kernel), List.mem_of_getElem? (i := 650) (by decide +kernel)⟩
theorem lw_p18 : lw_okq (⟨"DialMenus$Readings", "studyName", "(II)V"⟩, 5) := ⟨⟨by decide +kernel, by decide +kernel⟩, List.mem_of_getElem? (i := 115) (by decide +kernel), List.mem_of_getElem? (i := 663) (by decide +kernel), List.mem_of_getElem? (i := 664) (by decide +kernel)⟩
theorem lw_p19 : lw_okq (⟨"DialMenus$Readings", "layBest", "(LDialMenus$Roster;LDialMenus$Row;)V"⟩, 5) := ⟨⟨by decide +kernel, by decide +kernel⟩, List.mem_of_getElem? (i := 115) (by decide +kernel), List.mem_of_getElem? (i := 668) (by decide +kernel), List.mem_of_getElem? (i := 669) (by decide +kernel)⟩
theorem lw_p20 : lw_okq (⟨"DialMenus$Readings", "bestNameAt", "(LDialMenus$Roster;LDialMenus$Row;I)I"⟩, 5) := ⟨⟨by decide +kernel, by decide +kernel⟩, List.mem_of_getElem? (i := 115) (by decide +kernel), List.mem_of_getElem? (i := 673) (by decide +kernel), List.mem_of_getElem? (i := 674) (by decide +kernel)⟩
theorem lw_p21 : lw_okq (⟨"DialMenus$Readings", "keepsBest", "(II)Z"⟩, 5) := ⟨⟨by decide +kernel, by decide +kernel⟩, List.mem_of_getElem? (i := 115) (by decide +kernel), List.mem_of_getElem? (i := 677) (by decide +kernel), List.mem_of_getElem? (i := 678) (by decide +kernel)⟩
theorem lw_p22 : lw_okq (⟨"DialMenus", "adoptSpare", "()V"⟩, 15) := ⟨⟨by decide +kernel, by decide +kernel⟩, List.mem_of_getElem? (i := 16) (by decide +kernel), List.mem_of_getElem? (i := 704) (by decide +kernel), List.mem_of_getElem? (i := 705) (by decide +kernel)⟩
theorem lw_p23 : lw_okq (⟨"DialMenus$Menu", "hasSamePath", "(LDialMenus$Menu;I)Z"⟩, 6) := ⟨⟨by decide +kernel, by decide +kernel⟩, List.mem_of_getElem? (i := 160) (by decide +kernel), List.mem_of_getElem? (i := 720) (by decide +kernel), List.mem_of_getElem? (i := 721) (by decide +kernel)⟩
theorem lw_p24 : lw_okq (⟨"DialMenus$Menu", "splitDecimals", "(I)V"⟩, 6) := ⟨⟨by decide +kernel, by decide +kernel⟩, List.mem_of_getElem? (i := 160) (by decide +kernel), List.mem_of_getElem? (i := 741) (by decide +kernel), List.mem_of_getElem? (i := 742) (by decide +kernel)⟩
theorem lw_p25 : lw_okq (⟨"DialMenus$Menu", "beginsAsWanted", "(I)Z"⟩, 6) := ⟨⟨by decide +kernel, by decide +kernel⟩, List.mem_of_getElem? (i := 160) (by decide +kernel), List.mem_of_getElem? (i := 747) (by decide +kernel), List.mem_of_getElem? (i := 748) (by decide +kernel)⟩
theorem lw_p26 : lw_okq (⟨"DialMenus", "mixNames", "(J)J"⟩, 15) := ⟨⟨by decide +kernel, by decide +kernel⟩, List.mem_of_getElem? (i := 16) (by decide +kernel), List.mem_of_getElem? (i := 782) (by decide +kernel), List.mem_of_getElem? (i := 783) (by decide +kernel)⟩
theorem lw_p27 : lw_okq (⟨"DialMenus", "mixPaths", "(J)J"⟩, 15) := ⟨⟨by decide +kernel, by decide +kernel⟩, List.mem_of_getElem? (i := 16) (by decide +kernel), List.mem_of_getElem? (i := 792) (by decide +kernel), List.mem_of_getElem? (i := 793) (by decide +kernel)⟩
theorem lw_p28 : lw_okq (⟨"DialMenusModel", "read", "()I"⟩, 33) := ⟨⟨by decide +kernel, by decide +kernel⟩, List.mem_of_getElem? (i := 797) (by decide +kernel), List.mem_of_getElem? (i := 918) (by decide +kernel), List.mem_of_getElem? (i := 919) (by decide +kernel)⟩
theorem lw_p29 : lw_okq (⟨"DialMenusModel", "takes", "(I)Z"⟩, 33) := ⟨⟨by decide +kernel, by decide +kernel⟩, List.mem_of_getElem? (i := 797) (by decide +kernel), List.mem_of_getElem? (i := 922) (by decide +kernel), List.mem_of_getElem? (i := 923) (by decide +kernel)⟩
theorem lw_p30 : lw_okq (⟨"DialMenusModel", "takesName", "(I)Z"⟩, 33) := ⟨⟨by decide +kernel, by decide +kernel⟩, List.mem_of_getElem? (i := 797) (by decide +kernel), List.mem_of_getElem? (i := 926) (by decide +kernel), List.mem_of_getElem? (i := 927) (by decide +kernel)⟩
theorem lw_p31 : lw_okq (⟨"DialMenusModel", "isNewTwice", "()Z"⟩, 33) := ⟨⟨by decide +kernel, by decide +kernel⟩, List.mem_of_getElem? (i := 797) (by decide +kernel), List.mem_of_getElem? (i := 930) (by decide +kernel), List.mem_of_getElem? (i := 931) (by decide +kernel)⟩
def lw_privs_2 : List (MethodName × Nat) := [(⟨"DialMenus$Choices", "placeInList", "(LDialMenus$Roster;I)I"⟩, 1), (⟨"DialMenus$Readings", "studyDigit", "(I)V"⟩, 5), (⟨"DialMenus$Readings", "studyName", "(II)V"⟩, 5), (⟨"DialMenus$Readings", "layBest", "(LDialMenus$Roster;LDialMenus$Row;)V"⟩, 5), (⟨"DialMenus$Readings", "bestNameAt", "(LDialMenus$Roster;LDialMenus$Row;I)I"⟩, 5), (⟨"DialMenus$Readings", "keepsBest", "(II)Z"⟩, 5), (⟨"DialMenus", "adoptSpare", "()V"⟩, 15), (⟨"DialMenus$Menu", "hasSamePath", "(LDialMenus$Menu;I)Z"⟩, 6), (⟨"DialMenus$Menu", "splitDecimals", "(I)V"⟩, 6), (⟨"DialMenus$Menu", "beginsAsWanted", "(I)Z"⟩, 6), (⟨"DialMenus", "mixNames", "(J)J"⟩, 15), (⟨"DialMenus", "mixPaths", "(J)J"⟩, 15), (⟨"DialMenusModel", "read", "()I"⟩, 33), (⟨"DialMenusModel", "takes", "(I)Z"⟩, 33), (⟨"DialMenusModel", "takesName", "(I)Z"⟩, 33), (⟨"DialMenusModel", "isNewTwice", "()Z"⟩, 33)]
theorem lw_r2 : ∀ q ∈ lw_privs_2, lw_okq q := List.forall_mem_cons.mpr ⟨lw_p16, List.forall_mem_cons.mpr ⟨lw_p17, List.forall_mem_cons.mpr ⟨lw_p18, List.forall_mem_cons.mpr ⟨lw_p19, List.forall_mem_cons.mpr ⟨lw_p20, List.forall_mem_cons.mpr ⟨lw_p21, List.forall_mem_cons.mpr ⟨lw_p22, List.forall_mem_cons.mpr ⟨lw_p23, List.forall_mem_cons.mpr ⟨lw_p24, List.forall_mem_cons.mpr ⟨lw_p25, List.forall_mem_cons.mpr ⟨lw_p26, List.forall_mem_cons.mpr ⟨lw_p27, List.forall_mem_cons.mpr ⟨lw_p28, List.forall_mem_cons.mpr ⟨lw_p29, List.forall_mem_cons.mpr ⟨lw_p30, List.forall_mem_cons.mpr ⟨lw_p31, fun _ h => absurd h List.not_mem_nil⟩⟩⟩⟩⟩⟩⟩⟩⟩⟩⟩⟩⟩⟩⟩⟩
theorem lw_p32 : lw_okq (⟨"DialMenusModel", "goes", "(ZI)Z"⟩, 33) := ⟨⟨by decide +kernel, by decide +kernel⟩, List.mem_of_getElem? (i := 797) (by decide +kernel), List.mem_of_getElem? (i := 934) (by decide +kernel), List.mem_of_getElem? (i := 935) (by decide +kernel)⟩
theorem lw_p33 : lw_okq (⟨"DialMenusModel", "takesUse", "(I)Z"⟩, 33) := ⟨⟨by decide +kernel, by decide +kernel⟩, List.mem_of_getElem? (i := 797) (by decide +kernel), List.mem_of_getElem? (i := 938) (by decide +kernel), List.mem_of_getElem? (i := 939) (by decide +kernel)⟩
theorem lw_p34 : lw_okq (⟨"DialMenusModel", "isThere", "(I)Z"⟩, 33) := ⟨⟨by decide +kernel, by decide +kernel⟩, List.mem_of_getElem? (i := 797) (by decide +kernel), List.mem_of_getElem? (i := 946) (by decide +kernel), List.mem_of_getElem? (i := 947) (by decide +kernel)⟩
theorem lw_p35 : lw_okq (⟨"DialMenusModel", "compareNew", "(II)I"⟩, 33) := ⟨⟨by decide +kernel, by decide +kernel⟩, List.mem_of_getElem? (i := 797) (by decide +kernel), List.mem_of_getElem? (i := 950) (by decide +kernel), List.mem_of_getElem? (i := 951) (by decide +kernel)⟩
theorem lw_p36 : lw_okq (⟨"DialMenusModel", "comes", "(I)V"⟩, 33) := ⟨⟨by decide +kernel, by decide +kernel⟩, List.mem_of_getElem? (i := 797) (by decide +kernel), List.mem_of_getElem? (i := 954) (by decide +kernel), List.mem_of_getElem? (i := 955) (by decide +kernel)⟩
theorem lw_p37 : lw_okq (⟨"DialMenusModel", "moveName", "(II)V"⟩, 33) := ⟨⟨by decide +kernel, by decide +kernel⟩, List.mem_of_getElem? (i := 797) (by decide +kernel), List.mem_of_getElem? (i := 958) (by decide +kernel), List.mem_of_getElem? (i := 959) (by decide +kernel)⟩
theorem lw_p38 : lw_okq (⟨"DialMenusModel", "isDial", "()Z"⟩, 33) := ⟨⟨by decide +kernel, by decide +kernel⟩, List.mem_of_getElem? (i := 797) (by decide +kernel), List.mem_of_getElem? (i := 966) (by decide +kernel), List.mem_of_getElem? (i := 967) (by decide +kernel)⟩
theorem lw_p39 : lw_okq (⟨"DialMenusModel", "isName", "(I)Z"⟩, 33) := ⟨⟨by decide +kernel, by decide +kernel⟩, List.mem_of_getElem? (i := 797) (by decide +kernel), List.mem_of_getElem? (i := 974) (by decide +kernel), List.mem_of_getElem? (i := 975) (by decide +kernel)⟩
theorem lw_p40 : lw_okq (⟨"DialMenusModel", "nameNow", "(II)I"⟩, 33) := ⟨⟨by decide +kernel, by decide +kernel⟩, List.mem_of_getElem? (i := 797) (by decide +kernel), List.mem_of_getElem? (i := 986) (by decide +kernel), List.mem_of_getElem? (i := 987) (by decide +kernel)⟩
theorem lw_p41 : lw_okq (⟨"DialMenusModel", "twins", "(I)I"⟩, 33) := ⟨⟨by decide +kernel, by decide +kernel⟩, List.mem_of_getElem? (i := 797) (by decide +kernel), List.mem_of_getElem? (i := 990) (by decide +kernel), List.mem_of_getElem? (i := 991) (by decide +kernel)⟩
theorem lw_p42 : lw_okq (⟨"DialMenusModel", "isTwin", "(II)Z"⟩, 33) := ⟨⟨by decide +kernel, by decide +kernel⟩, List.mem_of_getElem? (i := 797) (by decide +kernel), List.mem_of_getElem? (i := 994) (by decide +kernel), List.mem_of_getElem? (i := 995) (by decide +kernel)⟩
theorem lw_p43 : lw_okq (⟨"DialMenusModel", "begins", "(III)Z"⟩, 33) := ⟨⟨by decide +kernel, by decide +kernel⟩, List.mem_of_getElem? (i := 797) (by decide +kernel), List.mem_of_getElem? (i := 998) (by decide +kernel), List.mem_of_getElem? (i := 999) (by decide +kernel)⟩
theorem lw_p44 : lw_okq (⟨"DialMenusModel", "codeAt", "(II)I"⟩, 33) := ⟨⟨by decide +kernel, by decide +kernel⟩, List.mem_of_getElem? (i := 797) (by decide +kernel), List.mem_of_getElem? (i := 1002) (by decide +kernel), List.mem_of_getElem? (i := 1003) (by decide +kernel)⟩
theorem lw_p45 : lw_okq (⟨"DialMenusModel", "telling", "(I)I"⟩, 33) := ⟨⟨by decide +kernel, by decide +kernel⟩, List.mem_of_getElem? (i := 797) (by decide +kernel), List.mem_of_getElem? (i := 1006) (by decide +kernel), List.mem_of_getElem? (i := 1007) (by decide +kernel)⟩
theorem lw_p46 : lw_okq (⟨"DialMenusModel", "presses", "(I)I"⟩, 33) := ⟨⟨by decide +kernel, by decide +kernel⟩, List.mem_of_getElem? (i := 797) (by decide +kernel), List.mem_of_getElem? (i := 1010) (by decide +kernel), List.mem_of_getElem? (i := 1011) (by decide +kernel)⟩
theorem lw_p47 : lw_okq (⟨"DialMenusModel", "placeIn", "(II)I"⟩, 33) := ⟨⟨by decide +kernel, by decide +kernel⟩, List.mem_of_getElem? (i := 797) (by decide +kernel), List.mem_of_getElem? (i := 1015) (by decide +kernel), List.mem_of_getElem? (i := 1016) (by decide +kernel)⟩
def lw_privs_3 : List (MethodName × Nat) := [(⟨"DialMenusModel", "goes", "(ZI)Z"⟩, 33), (⟨"DialMenusModel", "takesUse", "(I)Z"⟩, 33), (⟨"DialMenusModel", "isThere", "(I)Z"⟩, 33), (⟨"DialMenusModel", "compareNew", "(II)I"⟩, 33), (⟨"DialMenusModel", "comes", "(I)V"⟩, 33), (⟨"DialMenusModel", "moveName", "(II)V"⟩, 33), (⟨"DialMenusModel", "isDial", "()Z"⟩, 33), (⟨"DialMenusModel", "isName", "(I)Z"⟩, 33), (⟨"DialMenusModel", "nameNow", "(II)I"⟩, 33), (⟨"DialMenusModel", "twins", "(I)I"⟩, 33), (⟨"DialMenusModel", "isTwin", "(II)Z"⟩, 33), (⟨"DialMenusModel", "begins", "(III)Z"⟩, 33), (⟨"DialMenusModel", "codeAt", "(II)I"⟩, 33), (⟨"DialMenusModel", "telling", "(I)I"⟩, 33), (⟨"DialMenusModel", "presses", "(I)I"⟩, 33), (⟨"DialMenusModel", "placeIn", "(II)I"⟩, 33)]
theorem lw_r3 : ∀ q ∈ lw_privs_3, lw_okq q := List.forall_mem_cons.mpr ⟨lw_p32, List.forall_mem_cons.mpr ⟨lw_p33, List.forall_mem_cons.mpr ⟨lw_p34, List.forall_mem_cons.mpr ⟨lw_p35, List.forall_mem_cons.mpr ⟨lw_p36, List.forall_mem_cons.mpr ⟨lw_p37, List.forall_mem_cons.mpr ⟨lw_p38, List.forall_mem_cons.mpr ⟨lw_p39, List.forall_mem_cons.mpr ⟨lw_p40, List.forall_mem_cons.mpr ⟨lw_p41, List.forall_mem_cons.mpr ⟨lw_p42, List.forall_mem_cons.mpr ⟨lw_p43, List.forall_mem_cons.mpr ⟨lw_p44, List.forall_mem_cons.mpr ⟨lw_p45, List.forall_mem_cons.mpr ⟨lw_p46, List.forall_mem_cons.mpr ⟨lw_p47, fun _ h => absurd h List.not_mem_nil⟩⟩⟩⟩⟩⟩⟩⟩⟩⟩⟩⟩⟩⟩⟩⟩
theorem lw_p48 : lw_okq (⟨"DialMenusModel", "isAhead", "(II)Z"⟩, 33) := ⟨⟨by decide +kernel, by decide +kernel⟩, List.mem_of_getElem? (i := 797) (by decide +kernel), List.mem_of_getElem? (i := 1019) (by decide +kernel), List.mem_of_getElem? (i := 1020) (by decide +kernel)⟩
theorem lw_p49 : lw_okq (⟨"DialMenusModel", "layMenu", "(I)V"⟩, 33) := ⟨⟨by decide +kernel, by decide +kernel⟩, List.mem_of_getElem? (i := 797) (by decide +kernel), List.mem_of_getElem? (i := 1023) (by decide +kernel), List.mem_of_getElem? (i := 1024) (by decide +kernel)⟩
theorem lw_p50 : lw_okq (⟨"DialMenusModel", "layCosts", "(I)V"⟩, 33) := ⟨⟨by decide +kernel, by decide +kernel⟩, List.mem_of_getElem? (i := 797) (by decide +kernel), List.mem_of_getElem? (i := 1027) (by decide +kernel), List.mem_of_getElem? (i := 1028) (by decide +kernel)⟩
theorem lw_p51 : lw_okq (⟨"DialMenusModel", "layStretch", "(III)V"⟩, 33) := ⟨⟨by decide +kernel, by decide +kernel⟩, List.mem_of_getElem? (i := 797) (by decide +kernel), List.mem_of_getElem? (i := 1031) (by decide +kernel), List.mem_of_getElem? (i := 1032) (by decide +kernel)⟩
theorem lw_p52 : lw_okq (⟨"DialMenusModel", "bestParts", "(III)I"⟩, 33) := ⟨⟨by decide +kernel, by decide +kernel⟩, List.mem_of_getElem? (i := 797) (by decide +kernel), List.mem_of_getElem? (i := 1035) (by decide +kernel), List.mem_of_getElem? (i := 1036) (by decide +kernel)⟩
theorem lw_p53 : lw_okq (⟨"DialMenusModel", "partsAt", "(III)I"⟩, 33) := ⟨⟨by decide +kernel, by decide +kernel⟩, List.mem_of_getElem? (i := 797) (by decide +kernel), List.mem_of_getElem? (i := 1039) (by decide +kernel), List.mem_of_getElem? (i := 1040) (by decide +kernel)⟩
theorem lw_p54 : lw_okq (⟨"DialMenusModel", "costAt", "(II)I"⟩, 33) := ⟨⟨by decide +kernel, by decide +kernel⟩, List.mem_of_getElem? (i := 797) (by decide +kernel), List.mem_of_getElem? (i := 1043) (by decide +kernel), List.mem_of_getElem? (i := 1044) (by decide +kernel)⟩
theorem lw_p55 : lw_okq (⟨"DialMenusModel", "usesOf", "(II)I"⟩, 33) := ⟨⟨by decide +kernel, by decide +kernel⟩, List.mem_of_getElem? (i := 797) (by decide +kernel), List.mem_of_getElem? (i := 1047) (by decide +kernel), List.mem_of_getElem? (i := 1048) (by decide +kernel)⟩
theorem lw_p56 : lw_okq (⟨"DialMenusModel", "layPath", "(II)V"⟩, 33) := ⟨⟨by decide +kernel, by decide +kernel⟩, List.mem_of_getElem? (i := 797) (by decide +kernel), List.mem_of_getElem? (i := 1051) (by decide +kernel), List.mem_of_getElem? (i := 1052) (by decide +kernel)⟩
theorem lw_p57 : lw_okq (⟨"DialMenusModel", "partsOf", "(III)I"⟩, 33) := ⟨⟨by decide +kernel, by decide +kernel⟩, List.mem_of_getElem? (i := 797) (by decide +kernel), List.mem_of_getElem? (i := 1055) (by decide +kernel), List.mem_of_getElem? (i := 1056) (by decide +kernel)⟩
theorem lw_p58 : lw_okq (⟨"DialMenusModel", "firstCut", "(III)I"⟩, 33) := ⟨⟨by decide +kernel, by decide +kernel⟩, List.mem_of_getElem? (i := 797) (by decide +kernel), List.mem_of_getElem? (i := 1059) (by decide +kernel), List.mem_of_getElem? (i := 1060) (by decide +kernel)⟩
theorem lw_p59 : lw_okq (⟨"DialMenusModel", "aboutNow", "(I)I"⟩, 33) := ⟨⟨by decide +kernel, by decide +kernel⟩, List.mem_of_getElem? (i := 797) (by decide +kernel), List.mem_of_getElem? (i := 1079) (by decide +kernel), List.mem_of_getElem? (i := 1080) (by decide +kernel)⟩
theorem lw_p60 : lw_okq (⟨"DialMenusModel", "usesAll", "()I"⟩, 33) := ⟨⟨by decide +kernel, by decide +kernel⟩, List.mem_of_getElem? (i := 797) (by decide +kernel), List.mem_of_getElem? (i := 1083) (by decide +kernel), List.mem_of_getElem? (i := 1084) (by decide +kernel)⟩
theorem lw_p61 : lw_okq (⟨"DialMenusModel", "withTwins", "()I"⟩, 33) := ⟨⟨by decide +kernel, by decide +kernel⟩, List.mem_of_getElem? (i := 797) (by decide +kernel), List.mem_of_getElem? (i := 1087) (by decide +kernel), List.mem_of_getElem? (i := 1088) (by decide +kernel)⟩
theorem lw_p62 : lw_okq (⟨"DialMenusModel", "codesMany", "()I"⟩, 33) := ⟨⟨by decide +kernel, by decide +kernel⟩, List.mem_of_getElem? (i := 797) (by decide +kernel), List.mem_of_getElem? (i := 1091) (by decide +kernel), List.mem_of_getElem? (i := 1092) (by decide +kernel)⟩
theorem lw_p63 : lw_okq (⟨"DialMenusModel", "mostTelling", "()I"⟩, 33) := ⟨⟨by decide +kernel, by decide +kernel⟩, List.mem_of_getElem? (i := 797) (by decide +kernel), List.mem_of_getElem? (i := 1095) (by decide +kernel), List.mem_of_getElem? (i := 1096) (by decide +kernel)⟩
def lw_privs_4 : List (MethodName × Nat) := [(⟨"DialMenusModel", "isAhead", "(II)Z"⟩, 33), (⟨"DialMenusModel", "layMenu", "(I)V"⟩, 33), (⟨"DialMenusModel", "layCosts", "(I)V"⟩, 33), (⟨"DialMenusModel", "layStretch", "(III)V"⟩, 33), (⟨"DialMenusModel", "bestParts", "(III)I"⟩, 33), (⟨"DialMenusModel", "partsAt", "(III)I"⟩, 33), (⟨"DialMenusModel", "costAt", "(II)I"⟩, 33), (⟨"DialMenusModel", "usesOf", "(II)I"⟩, 33), (⟨"DialMenusModel", "layPath", "(II)V"⟩, 33), (⟨"DialMenusModel", "partsOf", "(III)I"⟩, 33), (⟨"DialMenusModel", "firstCut", "(III)I"⟩, 33), (⟨"DialMenusModel", "aboutNow", "(I)I"⟩, 33), (⟨"DialMenusModel", "usesAll", "()I"⟩, 33), (⟨"DialMenusModel", "withTwins", "()I"⟩, 33), (⟨"DialMenusModel", "codesMany", "()I"⟩, 33), (⟨"DialMenusModel", "mostTelling", "()I"⟩, 33)]
theorem lw_r4 : ∀ q ∈ lw_privs_4, lw_okq q := List.forall_mem_cons.mpr ⟨lw_p48, List.forall_mem_cons.mpr ⟨lw_p49, List.forall_mem_cons.mpr ⟨lw_p50, List.forall_mem_cons.mpr ⟨lw_p51, List.forall_mem_cons.mpr ⟨lw_p52, List.forall_mem_cons.mpr ⟨lw_p53, List.forall_mem_cons.mpr ⟨lw_p54, List.forall_mem_cons.mpr ⟨lw_p55, List.forall_mem_cons.mpr ⟨lw_p56, List.forall_mem_cons.mpr ⟨lw_p57, List.forall_mem_cons.mpr ⟨lw_p58, List.forall_mem_cons.mpr ⟨lw_p59, List.forall_mem_cons.mpr ⟨lw_p60, List.forall_mem_cons.mpr ⟨lw_p61, List.forall_mem_cons.mpr ⟨lw_p62, List.forall_mem_cons.mpr ⟨lw_p63, fun _ h => absurd h List.not_mem_nil⟩⟩⟩⟩⟩⟩⟩⟩⟩⟩⟩⟩⟩⟩⟩⟩
theorem lw_p64 : lw_okq (⟨"DialMenusModel", "pressesAll", "()I"⟩, 33) := ⟨⟨by decide +kernel, by decide +kernel⟩, List.mem_of_getElem? (i := 797) (by decide +kernel), List.mem_of_getElem? (i := 1099) (by decide +kernel), List.mem_of_getElem? (i := 1100) (by decide +kernel)⟩
theorem lw_p65 : lw_okq (⟨"DialMenusModel", "digitsAll", "()I"⟩, 33) := ⟨⟨by decide +kernel, by decide +kernel⟩, List.mem_of_getElem? (i := 797) (by decide +kernel), List.mem_of_getElem? (i := 1103) (by decide +kernel), List.mem_of_getElem? (i := 1104) (by decide +kernel)⟩
theorem lw_p66 : lw_okq (⟨"DialMenusModel", "isChosen", "(I)Z"⟩, 33) := ⟨⟨by decide +kernel, by decide +kernel⟩, List.mem_of_getElem? (i := 797) (by decide +kernel), List.mem_of_getElem? (i := 1127) (by decide +kernel), List.mem_of_getElem? (i := 1128) (by decide +kernel)⟩
theorem lw_p67 : lw_okq (⟨"DialMenusModel", "chosenAhead", "(I)I"⟩, 33) := ⟨⟨by decide +kernel, by decide +kernel⟩, List.mem_of_getElem? (i := 797) (by decide +kernel), List.mem_of_getElem? (i := 1131) (by decide +kernel), List.mem_of_getElem? (i := 1132) (by decide +kernel)⟩
theorem lw_p68 : lw_okq (⟨"DialMenusModel", "spellingNow", "(I)I"⟩, 33) := ⟨⟨by decide +kernel, by decide +kernel⟩, List.mem_of_getElem? (i := 797) (by decide +kernel), List.mem_of_getElem? (i := 1139) (by decide +kernel), List.mem_of_getElem? (i := 1140) (by decide +kernel)⟩
theorem lw_p69 : lw_okq (⟨"DialMenusModel", "laySpellings", "()V"⟩, 33) := ⟨⟨by decide +kernel, by decide +kernel⟩, List.mem_of_getElem? (i := 797) (by decide +kernel), List.mem_of_getElem? (i := 1143) (by decide +kernel), List.mem_of_getElem? (i := 1144) (by decide +kernel)⟩
theorem lw_p70 : lw_okq (⟨"DialMenusModel", "takesPiece", "(III)V"⟩, 33) := ⟨⟨by decide +kernel, by decide +kernel⟩, List.mem_of_getElem? (i := 797) (by decide +kernel), List.mem_of_getElem? (i := 1147) (by decide +kernel), List.mem_of_getElem? (i := 1148) (by decide +kernel)⟩
theorem lw_p71 : lw_okq (⟨"DialMenusModel", "fitsAt", "(II)Z"⟩, 33) := ⟨⟨by decide +kernel, by decide +kernel⟩, List.mem_of_getElem? (i := 797) (by decide +kernel), List.mem_of_getElem? (i := 1152) (by decide +kernel), List.mem_of_getElem? (i := 1153) (by decide +kernel)⟩
theorem lw_p72 : lw_okq (⟨"DialMenusModel", "pieceNow", "(I)I"⟩, 33) := ⟨⟨by decide +kernel, by decide +kernel⟩, List.mem_of_getElem? (i := 797) (by decide +kernel), List.mem_of_getElem? (i := 1160) (by decide +kernel), List.mem_of_getElem? (i := 1161) (by decide +kernel)⟩
theorem lw_p73 : lw_okq (⟨"DialMenusModel", "bestName", "(I)I"⟩, 33) := ⟨⟨by decide +kernel, by decide +kernel⟩, List.mem_of_getElem? (i := 797) (by decide +kernel), List.mem_of_getElem? (i := 1164) (by decide +kernel), List.mem_of_getElem? (i := 1165) (by decide +kernel)⟩
theorem lw_p74 : lw_okq (⟨"DialMenusModel", "takeMenu", "(I)I"⟩, 33) := ⟨⟨by decide +kernel, by decide +kernel⟩, List.mem_of_getElem? (i := 797) (by decide +kernel), List.mem_of_getElem? (i := 1172) (by decide +kernel), List.mem_of_getElem? (i := 1173) (by decide +kernel)⟩
theorem lw_p75 : lw_okq (⟨"DialMenusModel", "isPathChanged", "(I)Z"⟩, 33) := ⟨⟨by decide +kernel, by decide +kernel⟩, List.mem_of_getElem? (i := 797) (by decide +kernel), List.mem_of_getElem? (i := 1176) (by decide +kernel), List.mem_of_getElem? (i := 1177) (by decide +kernel)⟩
theorem lw_p76 : lw_okq (⟨"DialMenusModel", "costNow", "()I"⟩, 33) := ⟨⟨by decide +kernel, by decide +kernel⟩, List.mem_of_getElem? (i := 797) (by decide +kernel), List.mem_of_getElem? (i := 1180) (by decide +kernel), List.mem_of_getElem? (i := 1181) (by decide +kernel)⟩
theorem lw_p77 : lw_okq (⟨"DialMenusModel", "leastCost", "()I"⟩, 33) := ⟨⟨by decide +kernel, by decide +kernel⟩, List.mem_of_getElem? (i := 797) (by decide +kernel), List.mem_of_getElem? (i := 1188) (by decide +kernel), List.mem_of_getElem? (i := 1189) (by decide +kernel)⟩
theorem lw_p78 : lw_okq (⟨"DialMenusModel", "layAsked", "(I)Z"⟩, 33) := ⟨⟨by decide +kernel, by decide +kernel⟩, List.mem_of_getElem? (i := 797) (by decide +kernel), List.mem_of_getElem? (i := 1200) (by decide +kernel), List.mem_of_getElem? (i := 1201) (by decide +kernel)⟩
theorem lw_p79 : lw_okq (⟨"DialMenusModel", "isLed", "(I)Z"⟩, 33) := ⟨⟨by decide +kernel, by decide +kernel⟩, List.mem_of_getElem? (i := 797) (by decide +kernel), List.mem_of_getElem? (i := 1204) (by decide +kernel), List.mem_of_getElem? (i := 1205) (by decide +kernel)⟩
def lw_privs_5 : List (MethodName × Nat) := [(⟨"DialMenusModel", "pressesAll", "()I"⟩, 33), (⟨"DialMenusModel", "digitsAll", "()I"⟩, 33), (⟨"DialMenusModel", "isChosen", "(I)Z"⟩, 33), (⟨"DialMenusModel", "chosenAhead", "(I)I"⟩, 33), (⟨"DialMenusModel", "spellingNow", "(I)I"⟩, 33), (⟨"DialMenusModel", "laySpellings", "()V"⟩, 33), (⟨"DialMenusModel", "takesPiece", "(III)V"⟩, 33), (⟨"DialMenusModel", "fitsAt", "(II)Z"⟩, 33), (⟨"DialMenusModel", "pieceNow", "(I)I"⟩, 33), (⟨"DialMenusModel", "bestName", "(I)I"⟩, 33), (⟨"DialMenusModel", "takeMenu", "(I)I"⟩, 33), (⟨"DialMenusModel", "isPathChanged", "(I)Z"⟩, 33), (⟨"DialMenusModel", "costNow", "()I"⟩, 33), (⟨"DialMenusModel", "leastCost", "()I"⟩, 33), (⟨"DialMenusModel", "layAsked", "(I)Z"⟩, 33), (⟨"DialMenusModel", "isLed", "(I)Z"⟩, 33)]
theorem lw_r5 : ∀ q ∈ lw_privs_5, lw_okq q := List.forall_mem_cons.mpr ⟨lw_p64, List.forall_mem_cons.mpr ⟨lw_p65, List.forall_mem_cons.mpr ⟨lw_p66, List.forall_mem_cons.mpr ⟨lw_p67, List.forall_mem_cons.mpr ⟨lw_p68, List.forall_mem_cons.mpr ⟨lw_p69, List.forall_mem_cons.mpr ⟨lw_p70, List.forall_mem_cons.mpr ⟨lw_p71, List.forall_mem_cons.mpr ⟨lw_p72, List.forall_mem_cons.mpr ⟨lw_p73, List.forall_mem_cons.mpr ⟨lw_p74, List.forall_mem_cons.mpr ⟨lw_p75, List.forall_mem_cons.mpr ⟨lw_p76, List.forall_mem_cons.mpr ⟨lw_p77, List.forall_mem_cons.mpr ⟨lw_p78, List.forall_mem_cons.mpr ⟨lw_p79, fun _ h => absurd h List.not_mem_nil⟩⟩⟩⟩⟩⟩⟩⟩⟩⟩⟩⟩⟩⟩⟩⟩
theorem lw_p80 : lw_okq (⟨"DialMenusModel", "menuNow", "(I)I"⟩, 33) := ⟨⟨by decide +kernel, by decide +kernel⟩, List.mem_of_getElem? (i := 797) (by decide +kernel), List.mem_of_getElem? (i := 1212) (by decide +kernel), List.mem_of_getElem? (i := 1213) (by decide +kernel)⟩
theorem lw_p81 : lw_okq (⟨"DialMenusModel", "longest", "()I"⟩, 33) := ⟨⟨by decide +kernel, by decide +kernel⟩, List.mem_of_getElem? (i := 797) (by decide +kernel), List.mem_of_getElem? (i := 1216) (by decide +kernel), List.mem_of_getElem? (i := 1217) (by decide +kernel)⟩
theorem lw_p82 : lw_okq (⟨"DialMenusModel", "menusMany", "()I"⟩, 33) := ⟨⟨by decide +kernel, by decide +kernel⟩, List.mem_of_getElem? (i := 797) (by decide +kernel), List.mem_of_getElem? (i := 1220) (by decide +kernel), List.mem_of_getElem? (i := 1221) (by decide +kernel)⟩
theorem lw_p83 : lw_okq (⟨"DialMenusModel", "isSamePath", "(III)Z"⟩, 33) := ⟨⟨by decide +kernel, by decide +kernel⟩, List.mem_of_getElem? (i := 797) (by decide +kernel), List.mem_of_getElem? (i := 1224) (by decide +kernel), List.mem_of_getElem? (i := 1225) (by decide +kernel)⟩
theorem lw_p84 : lw_okq (⟨"DialMenusModel", "wholeParts", "()I"⟩, 33) := ⟨⟨by decide +kernel, by decide +kernel⟩, List.mem_of_getElem? (i := 797) (by decide +kernel), List.mem_of_getElem? (i := 1228) (by decide +kernel), List.mem_of_getElem? (i := 1229) (by decide +kernel)⟩
theorem lw_p85 : lw_okq (⟨"DialMenusModel", "howMany", "(I)I"⟩, 33) := ⟨⟨by decide +kernel, by decide +kernel⟩, List.mem_of_getElem? (i := 797) (by decide +kernel), List.mem_of_getElem? (i := 1236) (by decide +kernel), List.mem_of_getElem? (i := 1237) (by decide +kernel)⟩
theorem lw_p86 : lw_okq (⟨"DialMenusModel", "mix", "(J)V"⟩, 33) := ⟨⟨by decide +kernel, by decide +kernel⟩, List.mem_of_getElem? (i := 797) (by decide +kernel), List.mem_of_getElem? (i := 1245) (by decide +kernel), List.mem_of_getElem? (i := 1246) (by decide +kernel)⟩
theorem lw_p87 : lw_okq (⟨"DialMenusModel", "mixName", "(I)V"⟩, 33) := ⟨⟨by decide +kernel, by decide +kernel⟩, List.mem_of_getElem? (i := 797) (by decide +kernel), List.mem_of_getElem? (i := 1250) (by decide +kernel), List.mem_of_getElem? (i := 1251) (by decide +kernel)⟩
theorem lw_p88 : lw_okq (⟨"DialMenusModel", "mixTyped", "()V"⟩, 33) := ⟨⟨by decide +kernel, by decide +kernel⟩, List.mem_of_getElem? (i := 797) (by decide +kernel), List.mem_of_getElem? (i := 1254) (by decide +kernel), List.mem_of_getElem? (i := 1255) (by decide +kernel)⟩
theorem lw_p89 : lw_okq (⟨"DialMenusModel", "mixMenu", "()V"⟩, 33) := ⟨⟨by decide +kernel, by decide +kernel⟩, List.mem_of_getElem? (i := 797) (by decide +kernel), List.mem_of_getElem? (i := 1259) (by decide +kernel), List.mem_of_getElem? (i := 1260) (by decide +kernel)⟩
def lw_privs_6 : List (MethodName × Nat) := [(⟨"DialMenusModel", "menuNow", "(I)I"⟩, 33), (⟨"DialMenusModel", "longest", "()I"⟩, 33), (⟨"DialMenusModel", "menusMany", "()I"⟩, 33), (⟨"DialMenusModel", "isSamePath", "(III)Z"⟩, 33), (⟨"DialMenusModel", "wholeParts", "()I"⟩, 33), (⟨"DialMenusModel", "howMany", "(I)I"⟩, 33), (⟨"DialMenusModel", "mix", "(J)V"⟩, 33), (⟨"DialMenusModel", "mixName", "(I)V"⟩, 33), (⟨"DialMenusModel", "mixTyped", "()V"⟩, 33), (⟨"DialMenusModel", "mixMenu", "()V"⟩, 33)]
theorem lw_r6 : ∀ q ∈ lw_privs_6, lw_okq q := List.forall_mem_cons.mpr ⟨lw_p80, List.forall_mem_cons.mpr ⟨lw_p81, List.forall_mem_cons.mpr ⟨lw_p82, List.forall_mem_cons.mpr ⟨lw_p83, List.forall_mem_cons.mpr ⟨lw_p84, List.forall_mem_cons.mpr ⟨lw_p85, List.forall_mem_cons.mpr ⟨lw_p86, List.forall_mem_cons.mpr ⟨lw_p87, List.forall_mem_cons.mpr ⟨lw_p88, List.forall_mem_cons.mpr ⟨lw_p89, fun _ h => absurd h List.not_mem_nil⟩⟩⟩⟩⟩⟩⟩⟩⟩⟩
def lw_privs : List (MethodName × Nat) := lw_privs_1 ++ (lw_privs_2 ++ (lw_privs_3 ++ (lw_privs_4 ++ (lw_privs_5 ++ (lw_privs_6)))))
def lw_tbl : List Cond := k2_sels lw_privs ++ tables_1
theorem lw_privs_ok : ∀ q ∈ lw_privs, lw_okq q := by
  show ∀ q ∈ lw_privs_1 ++ (lw_privs_2 ++ (lw_privs_3 ++ (lw_privs_4 ++ (lw_privs_5 ++ (lw_privs_6))))), lw_okq q
  exact List.forall_mem_append.mpr ⟨lw_r1, List.forall_mem_append.mpr ⟨lw_r2, List.forall_mem_append.mpr ⟨lw_r3, List.forall_mem_append.mpr ⟨lw_r4, List.forall_mem_append.mpr ⟨lw_r5, lw_r6⟩⟩⟩⟩⟩
end
section
def RX0 : String := "DialMenus$Choices"
def TX0 : u_T := fun k => match k with
  | _ => ("DialMenus$Choices", "listed", "LDialMenus$Row;", true)
def tyX0 : Nat → FieldType := fun k => match k with
  | _ => .object "DialMenus$Row"
abbrev wsX00 : List Cond := u_ws RX0 TX0 1
theorem nmX0 : ∀ a, a < 1 → ∀ b, b < 1 → a ≠ b → (TX0 a).2.1 ≠ (TX0 b).2.1 := by decide +kernel
theorem tyX0_ok : ∀ k, k < 1 → parseFieldDescriptor (TX0 k).2.2.1 = some (tyX0 k) := by decide +kernel
abbrev cX0_init : ByteArray := prog_2_method_1_code
def yX0_init : MethodName := ⟨RX0, "<init>", "()V"⟩
abbrev cX0_listFor : ByteArray := prog_2_method_2_code
def yX0_listFor : MethodName := ⟨RX0, "listFor", "(LDialMenus$Roster;LDialMenus$Row;)LDialMenus$Row;"⟩
abbrev cX0_placeInList : ByteArray := prog_2_method_3_code
def yX0_placeInList : MethodName := ⟨RX0, "placeInList", "(LDialMenus$Roster;I)I"⟩
abbrev cX0_placeIn : ByteArray := prog_2_method_4_code
def yX0_placeIn : MethodName := ⟨RX0, "placeIn", "(LDialMenus$Roster;II)I"⟩
abbrev cX0_presses : ByteArray := prog_2_method_5_code
def yX0_presses : MethodName := ⟨RX0, "presses", "(LDialMenus$Roster;I)I"⟩
abbrev cX0_distinguishingLength : ByteArray := prog_2_method_6_code
def yX0_distinguishingLength : MethodName := ⟨RX0, "distinguishingLength", "(LDialMenus$Roster;I)I"⟩
abbrev cX0_areTwins : ByteArray := prog_2_method_7_code
def yX0_areTwins : MethodName := ⟨RX0, "areTwins", "(LDialMenus$Roster;II)Z"⟩
abbrev cX0_twins : ByteArray := prog_2_method_8_code
def yX0_twins : MethodName := ⟨RX0, "twins", "(LDialMenus$Roster;I)I"⟩
abbrev cX0_twinsBelow : ByteArray := prog_2_method_9_code
def yX0_twinsBelow : MethodName := ⟨RX0, "twinsBelow", "(LDialMenus$Roster;II)I"⟩
abbrev cX0_namesWithTwins : ByteArray := prog_2_method_10_code
def yX0_namesWithTwins : MethodName := ⟨RX0, "namesWithTwins", "(LDialMenus$Roster;)I"⟩
abbrev cX0_differentCodes : ByteArray := prog_2_method_11_code
def yX0_differentCodes : MethodName := ⟨RX0, "differentCodes", "(LDialMenus$Roster;)I"⟩
abbrev cX0_greatestDistinguishingLength : ByteArray := prog_2_method_12_code
def yX0_greatestDistinguishingLength : MethodName := ⟨RX0, "greatestDistinguishingLength", "(LDialMenus$Roster;)I"⟩
abbrev cX0_sumOfPresses : ByteArray := prog_2_method_13_code
def yX0_sumOfPresses : MethodName := ⟨RX0, "sumOfPresses", "(LDialMenus$Roster;)I"⟩
def RX1 : String := "DialMenus$Entry"
def TX1 : u_T := fun k => match k with
  | 0 => ("DialMenus$Entry", "letters", "[I", true)
  | 1 => ("DialMenus$Entry", "code", "[I", true)
  | _ => ("DialMenus$Entry", "frequency", "I", false)
def tyX1 : Nat → FieldType := fun k => match k with
  | 0 => .array .int
  | 1 => .array .int
  | _ => .int
abbrev wsX10 : List Cond := u_ws RX1 TX1 3
theorem nmX1 : ∀ a, a < 3 → ∀ b, b < 3 → a ≠ b → (TX1 a).2.1 ≠ (TX1 b).2.1 := by decide +kernel
theorem tyX1_ok : ∀ k, k < 3 → parseFieldDescriptor (TX1 k).2.2.1 = some (tyX1 k) := by decide +kernel
abbrev cX1_init : ByteArray := prog_3_method_1_code
def yX1_init : MethodName := ⟨RX1, "<init>", "(LDialMenus$Row;III)V"⟩
abbrev cX1_encode : ByteArray := prog_3_method_2_code
def yX1_encode : MethodName := ⟨RX1, "encode", "(LDialMenus$Keypad;)V"⟩
abbrev cX1_letterAt : ByteArray := prog_3_method_3_code
def yX1_letterAt : MethodName := ⟨RX1, "letterAt", "(I)I"⟩
abbrev cX1_digitAt : ByteArray := prog_3_method_4_code
def yX1_digitAt : MethodName := ⟨RX1, "digitAt", "(I)I"⟩
abbrev cX1_comesBefore : ByteArray := prog_3_method_5_code
def yX1_comesBefore : MethodName := ⟨RX1, "comesBefore", "(LDialMenus$Entry;)Z"⟩
abbrev cX1_isWritten : ByteArray := prog_3_method_6_code
def yX1_isWritten : MethodName := ⟨RX1, "isWritten", "(LDialMenus$Row;II)Z"⟩
abbrev cX1_sharedDigits : ByteArray := prog_3_method_7_code
def yX1_sharedDigits : MethodName := ⟨RX1, "sharedDigits", "(LDialMenus$Entry;)I"⟩
abbrev cX1_beginsWith : ByteArray := prog_3_method_8_code
def yX1_beginsWith : MethodName := ⟨RX1, "beginsWith", "(LDialMenus$Row;)Z"⟩
abbrev cX1_isTypedAt : ByteArray := prog_3_method_9_code
def yX1_isTypedAt : MethodName := ⟨RX1, "isTypedAt", "(LDialMenus$Row;I)Z"⟩
def RX2 : String := "DialMenus$Keypad"
def TX2 : u_T := fun k => match k with
  | 0 => ("DialMenus$Keypad", "digits", "[I", true)
  | _ => ("DialMenus$Keypad", "draft", "[I", true)
def tyX2 : Nat → FieldType := fun k => match k with
  | 0 => .array .int
  | _ => .array .int
abbrev wsX20 : List Cond := u_ws RX2 TX2 2
theorem nmX2 : ∀ a, a < 2 → ∀ b, b < 2 → a ≠ b → (TX2 a).2.1 ≠ (TX2 b).2.1 := by decide +kernel
theorem tyX2_ok : ∀ k, k < 2 → parseFieldDescriptor (TX2 k).2.2.1 = some (tyX2 k) := by decide +kernel
abbrev cX2_init : ByteArray := prog_4_method_1_code
def yX2_init : MethodName := ⟨RX2, "<init>", "()V"⟩
abbrev cX2_digitOf : ByteArray := prog_4_method_2_code
def yX2_digitOf : MethodName := ⟨RX2, "digitOf", "(I)I"⟩
abbrev cX2_read : ByteArray := prog_4_method_3_code
def yX2_read : MethodName := ⟨RX2, "read", "(LDialMenus$Row;)I"⟩
def RX3 : String := "DialMenus$ListReader"
def TX3 : u_T := fun k => match k with
  | 0 => ("DialMenus$ListReader", "starts", "[I", true)
  | 1 => ("DialMenus$ListReader", "lengths", "[I", true)
  | 2 => ("DialMenus$ListReader", "frequencies", "[I", true)
  | 3 => ("DialMenus$ListReader", "items", "I", false)
  | 4 => ("DialMenus$ListReader", "start", "I", false)
  | _ => ("DialMenus$ListReader", "inFrequency", "Z", false)
def tyX3 : Nat → FieldType := fun k => match k with
  | 0 => .array .int
  | 1 => .array .int
  | 2 => .array .int
  | 3 => .int
  | 4 => .int
  | _ => .boolean
abbrev wsX30 : List Cond := u_ws RX3 TX3 6
theorem nmX3 : ∀ a, a < 6 → ∀ b, b < 6 → a ≠ b → (TX3 a).2.1 ≠ (TX3 b).2.1 := by decide +kernel
theorem tyX3_ok : ∀ k, k < 6 → parseFieldDescriptor (TX3 k).2.2.1 = some (tyX3 k) := by decide +kernel
abbrev cX3_init : ByteArray := prog_5_method_1_code
def yX3_init : MethodName := ⟨RX3, "<init>", "()V"⟩
abbrev cX3_items : ByteArray := prog_5_method_2_code
def yX3_items : MethodName := ⟨RX3, "items", "()I"⟩
abbrev cX3_startOf : ByteArray := prog_5_method_3_code
def yX3_startOf : MethodName := ⟨RX3, "startOf", "(I)I"⟩
abbrev cX3_lengthOf : ByteArray := prog_5_method_4_code
def yX3_lengthOf : MethodName := ⟨RX3, "lengthOf", "(I)I"⟩
abbrev cX3_entryOf : ByteArray := prog_5_method_5_code
def yX3_entryOf : MethodName := ⟨RX3, "entryOf", "(LDialMenus$Row;I)LDialMenus$Entry;"⟩
abbrev cX3_frequencyOf : ByteArray := prog_5_method_6_code
def yX3_frequencyOf : MethodName := ⟨RX3, "frequencyOf", "(I)I"⟩
abbrev cX3_endsWithItem : ByteArray := prog_5_method_7_code
def yX3_endsWithItem : MethodName := ⟨RX3, "endsWithItem", "()Z"⟩
abbrev cX3_scan : ByteArray := prog_5_method_8_code
def yX3_scan : MethodName := ⟨RX3, "scan", "(LDialMenus$Row;)I"⟩
abbrev cX3_fitsName : ByteArray := prog_5_method_9_code
def yX3_fitsName : MethodName := ⟨RX3, "fitsName", "(LDialMenus$Row;I)Z"⟩
abbrev cX3_endsName : ByteArray := prog_5_method_10_code
def yX3_endsName : MethodName := ⟨RX3, "endsName", "(LDialMenus$Row;I)Z"⟩
abbrev cX3_isListed : ByteArray := prog_5_method_11_code
def yX3_isListed : MethodName := ⟨RX3, "isListed", "(LDialMenus$Row;I)Z"⟩
abbrev cX3_isSameText : ByteArray := prog_5_method_12_code
def yX3_isSameText : MethodName := ⟨RX3, "isSameText", "(LDialMenus$Row;II)Z"⟩
abbrev cX3_fitsFrequency : ByteArray := prog_5_method_13_code
def yX3_fitsFrequency : MethodName := ⟨RX3, "fitsFrequency", "(II)Z"⟩
def RX4 : String := "DialMenus$Menu"
def TX4 : u_T := fun k => match k with
  | 0 => ("DialMenus$Menu", "steps", "[[I", true)
  | 1 => ("DialMenus$Menu", "lengths", "[I", true)
  | 2 => ("DialMenus$Menu", "wanted", "LDialMenus$Row;", true)
  | 3 => ("DialMenus$Menu", "width", "I", false)
  | 4 => ("DialMenus$Menu", "size", "I", false)
  | _ => ("DialMenus$Menu", "branchings", "I", false)
def tyX4 : Nat → FieldType := fun k => match k with
  | 0 => .array (.array .int)
  | 1 => .array .int
  | 2 => .object "DialMenus$Row"
  | 3 => .int
  | 4 => .int
  | _ => .int
abbrev wsX40 : List Cond := u_ws RX4 TX4 6
theorem nmX4 : ∀ a, a < 6 → ∀ b, b < 6 → a ≠ b → (TX4 a).2.1 ≠ (TX4 b).2.1 := by decide +kernel
theorem tyX4_ok : ∀ k, k < 6 → parseFieldDescriptor (TX4 k).2.2.1 = some (tyX4 k) := by decide +kernel
abbrev cX4_init : ByteArray := prog_6_method_1_code
def yX4_init : MethodName := ⟨RX4, "<init>", "()V"⟩
abbrev cX4_start : ByteArray := prog_6_method_2_code
def yX4_start : MethodName := ⟨RX4, "start", "(II)V"⟩
abbrev cX4_addStep : ByteArray := prog_6_method_3_code
def yX4_addStep : MethodName := ⟨RX4, "addStep", "(II)V"⟩
abbrev cX4_addBranching : ByteArray := prog_6_method_4_code
def yX4_addBranching : MethodName := ⟨RX4, "addBranching", "()V"⟩
abbrev cX4_has : ByteArray := prog_6_method_5_code
def yX4_has : MethodName := ⟨RX4, "has", "(I)Z"⟩
abbrev cX4_width : ByteArray := prog_6_method_6_code
def yX4_width : MethodName := ⟨RX4, "width", "()I"⟩
abbrev cX4_branchings : ByteArray := prog_6_method_7_code
def yX4_branchings : MethodName := ⟨RX4, "branchings", "()I"⟩
abbrev cX4_lengthOf : ByteArray := prog_6_method_8_code
def yX4_lengthOf : MethodName := ⟨RX4, "lengthOf", "(I)I"⟩
abbrev cX4_stepOf : ByteArray := prog_6_method_9_code
def yX4_stepOf : MethodName := ⟨RX4, "stepOf", "(II)I"⟩
abbrev cX4_cost : ByteArray := prog_6_method_10_code
def yX4_cost : MethodName := ⟨RX4, "cost", "(LDialMenus$Roster;)I"⟩
abbrev cX4_longestPath : ByteArray := prog_6_method_11_code
def yX4_longestPath : MethodName := ⟨RX4, "longestPath", "()I"⟩
abbrev cX4_partsOfWhole : ByteArray := prog_6_method_12_code
def yX4_partsOfWhole : MethodName := ⟨RX4, "partsOfWhole", "()I"⟩
abbrev cX4_differentPaths : ByteArray := prog_6_method_13_code
def yX4_differentPaths : MethodName := ⟨RX4, "differentPaths", "(LDialMenus$Menu;)I"⟩
abbrev cX4_hasSamePath : ByteArray := prog_6_method_14_code
def yX4_hasSamePath : MethodName := ⟨RX4, "hasSamePath", "(LDialMenus$Menu;I)Z"⟩
abbrev cX4_follow : ByteArray := prog_6_method_15_code
def yX4_follow : MethodName := ⟨RX4, "follow", "(I)I"⟩
abbrev cX4_splitDecimals : ByteArray := prog_6_method_16_code
def yX4_splitDecimals : MethodName := ⟨RX4, "splitDecimals", "(I)V"⟩
abbrev cX4_beginsAsWanted : ByteArray := prog_6_method_17_code
def yX4_beginsAsWanted : MethodName := ⟨RX4, "beginsAsWanted", "(I)Z"⟩
def RX5 : String := "DialMenus$Planner"
def TX5 : u_T := fun k => match k with
  | 0 => ("DialMenus$Planner", "sumBefore", "[I", true)
  | 1 => ("DialMenus$Planner", "costs", "[[I", true)
  | 2 => ("DialMenus$Planner", "firstSizes", "[[I", true)
  | _ => ("DialMenus$Planner", "bestParts", "[I", true)
def tyX5 : Nat → FieldType := fun k => match k with
  | 0 => .array .int
  | 1 => .array (.array .int)
  | 2 => .array (.array .int)
  | _ => .array .int
abbrev wsX50 : List Cond := u_ws RX5 TX5 4
theorem nmX5 : ∀ a, a < 4 → ∀ b, b < 4 → a ≠ b → (TX5 a).2.1 ≠ (TX5 b).2.1 := by decide +kernel
theorem tyX5_ok : ∀ k, k < 4 → parseFieldDescriptor (TX5 k).2.2.1 = some (tyX5 k) := by decide +kernel
abbrev cX5_init : ByteArray := prog_7_method_1_code
def yX5_init : MethodName := ⟨RX5, "<init>", "()V"⟩
abbrev cX5_planInto : ByteArray := prog_7_method_2_code
def yX5_planInto : MethodName := ⟨RX5, "planInto", "(LDialMenus$Menu;LDialMenus$Roster;I)V"⟩
abbrev cX5_run : ByteArray := prog_7_method_3_code
def yX5_run : MethodName := ⟨RX5, "run", "(II)I"⟩
abbrev cX5_planRun : ByteArray := prog_7_method_4_code
def yX5_planRun : MethodName := ⟨RX5, "planRun", "(III)V"⟩
abbrev cX5_planParts : ByteArray := prog_7_method_5_code
def yX5_planParts : MethodName := ⟨RX5, "planParts", "(III)V"⟩
abbrev cX5_layPath : ByteArray := prog_7_method_6_code
def yX5_layPath : MethodName := ⟨RX5, "layPath", "(LDialMenus$Menu;II)V"⟩
def RX6 : String := "DialMenus$Readings"
def TX6 : u_T := fun k => match k with
  | 0 => ("DialMenus$Readings", "all", "[I", true)
  | 1 => ("DialMenus$Readings", "fewestDigits", "[I", true)
  | 2 => ("DialMenus$Readings", "withFewestDigits", "[I", true)
  | 3 => ("DialMenus$Readings", "fewestPieces", "[I", true)
  | _ => ("DialMenus$Readings", "best", "LDialMenus$Row;", true)
def tyX6 : Nat → FieldType := fun k => match k with
  | 0 => .array .int
  | 1 => .array .int
  | 2 => .array .int
  | 3 => .array .int
  | _ => .object "DialMenus$Row"
abbrev wsX60 : List Cond := u_ws RX6 TX6 5
theorem nmX6 : ∀ a, a < 5 → ∀ b, b < 5 → a ≠ b → (TX6 a).2.1 ≠ (TX6 b).2.1 := by decide +kernel
theorem tyX6_ok : ∀ k, k < 5 → parseFieldDescriptor (TX6 k).2.2.1 = some (tyX6 k) := by decide +kernel
abbrev cX6_init : ByteArray := prog_8_method_1_code
def yX6_init : MethodName := ⟨RX6, "<init>", "()V"⟩
abbrev cX6_study : ByteArray := prog_8_method_2_code
def yX6_study : MethodName := ⟨RX6, "study", "(LDialMenus$Roster;LDialMenus$Row;)V"⟩
abbrev cX6_studyDigit : ByteArray := prog_8_method_3_code
def yX6_studyDigit : MethodName := ⟨RX6, "studyDigit", "(I)V"⟩
abbrev cX6_studyName : ByteArray := prog_8_method_4_code
def yX6_studyName : MethodName := ⟨RX6, "studyName", "(II)V"⟩
abbrev cX6_layBest : ByteArray := prog_8_method_5_code
def yX6_layBest : MethodName := ⟨RX6, "layBest", "(LDialMenus$Roster;LDialMenus$Row;)V"⟩
abbrev cX6_bestNameAt : ByteArray := prog_8_method_6_code
def yX6_bestNameAt : MethodName := ⟨RX6, "bestNameAt", "(LDialMenus$Roster;LDialMenus$Row;I)I"⟩
abbrev cX6_keepsBest : ByteArray := prog_8_method_7_code
def yX6_keepsBest : MethodName := ⟨RX6, "keepsBest", "(II)Z"⟩
abbrev cX6_best : ByteArray := prog_8_method_8_code
def yX6_best : MethodName := ⟨RX6, "best", "()LDialMenus$Row;"⟩
abbrev cX6_number : ByteArray := prog_8_method_9_code
def yX6_number : MethodName := ⟨RX6, "number", "(I)I"⟩
def RX7 : String := "DialMenus$Roster"
def TX7 : u_T := fun k => match k with
  | 0 => ("DialMenus$Roster", "entries", "[LDialMenus$Entry;", true)
  | _ => ("DialMenus$Roster", "size", "I", false)
def tyX7 : Nat → FieldType := fun k => match k with
  | 0 => .array (.object "DialMenus$Entry")
  | _ => .int
abbrev wsX70 : List Cond := u_ws RX7 TX7 2
theorem nmX7 : ∀ a, a < 2 → ∀ b, b < 2 → a ≠ b → (TX7 a).2.1 ≠ (TX7 b).2.1 := by decide +kernel
theorem tyX7_ok : ∀ k, k < 2 → parseFieldDescriptor (TX7 k).2.2.1 = some (tyX7 k) := by decide +kernel
abbrev cX7_init : ByteArray := prog_9_method_1_code
def yX7_init : MethodName := ⟨RX7, "<init>", "()V"⟩
abbrev cX7_size : ByteArray := prog_9_method_2_code
def yX7_size : MethodName := ⟨RX7, "size", "()I"⟩
abbrev cX7_has : ByteArray := prog_9_method_3_code
def yX7_has : MethodName := ⟨RX7, "has", "(I)Z"⟩
abbrev cX7_get : ByteArray := prog_9_method_4_code
def yX7_get : MethodName := ⟨RX7, "get", "(I)LDialMenus$Entry;"⟩
abbrev cX7_insert : ByteArray := prog_9_method_5_code
def yX7_insert : MethodName := ⟨RX7, "insert", "(LDialMenus$Entry;)V"⟩
abbrev cX7_placeOf : ByteArray := prog_9_method_6_code
def yX7_placeOf : MethodName := ⟨RX7, "placeOf", "(LDialMenus$Entry;)I"⟩
abbrev cX7_remove : ByteArray := prog_9_method_7_code
def yX7_remove : MethodName := ⟨RX7, "remove", "(I)V"⟩
abbrev cX7_contains : ByteArray := prog_9_method_8_code
def yX7_contains : MethodName := ⟨RX7, "contains", "(LDialMenus$Row;II)Z"⟩
abbrev cX7_encode : ByteArray := prog_9_method_9_code
def yX7_encode : MethodName := ⟨RX7, "encode", "(LDialMenus$Keypad;)V"⟩
abbrev cX7_setFrequency : ByteArray := prog_9_method_10_code
def yX7_setFrequency : MethodName := ⟨RX7, "setFrequency", "(II)I"⟩
abbrev cX7_frequencyOf : ByteArray := prog_9_method_11_code
def yX7_frequencyOf : MethodName := ⟨RX7, "frequencyOf", "(I)I"⟩
abbrev cX7_lengthOf : ByteArray := prog_9_method_12_code
def yX7_lengthOf : MethodName := ⟨RX7, "lengthOf", "(I)I"⟩
abbrev cX7_letterAt : ByteArray := prog_9_method_13_code
def yX7_letterAt : MethodName := ⟨RX7, "letterAt", "(II)I"⟩
abbrev cX7_digitAt : ByteArray := prog_9_method_14_code
def yX7_digitAt : MethodName := ⟨RX7, "digitAt", "(II)I"⟩
abbrev cX7_sharedDigits : ByteArray := prog_9_method_15_code
def yX7_sharedDigits : MethodName := ⟨RX7, "sharedDigits", "(II)I"⟩
abbrev cX7_isAhead : ByteArray := prog_9_method_16_code
def yX7_isAhead : MethodName := ⟨RX7, "isAhead", "(II)Z"⟩
abbrev cX7_beginsWith : ByteArray := prog_9_method_17_code
def yX7_beginsWith : MethodName := ⟨RX7, "beginsWith", "(ILDialMenus$Row;)Z"⟩
abbrev cX7_isTypedAt : ByteArray := prog_9_method_18_code
def yX7_isTypedAt : MethodName := ⟨RX7, "isTypedAt", "(ILDialMenus$Row;I)Z"⟩
abbrev cX7_sumOfFrequencies : ByteArray := prog_9_method_19_code
def yX7_sumOfFrequencies : MethodName := ⟨RX7, "sumOfFrequencies", "()I"⟩
abbrev cX7_sumOfLengths : ByteArray := prog_9_method_20_code
def yX7_sumOfLengths : MethodName := ⟨RX7, "sumOfLengths", "()I"⟩
def RX8 : String := "DialMenus$Row"
def TX8 : u_T := fun k => match k with
  | 0 => ("DialMenus$Row", "items", "[I", true)
  | _ => ("DialMenus$Row", "size", "I", false)
def tyX8 : Nat → FieldType := fun k => match k with
  | 0 => .array .int
  | _ => .int
abbrev wsX80 : List Cond := u_ws RX8 TX8 2
theorem nmX8 : ∀ a, a < 2 → ∀ b, b < 2 → a ≠ b → (TX8 a).2.1 ≠ (TX8 b).2.1 := by decide +kernel
theorem tyX8_ok : ∀ k, k < 2 → parseFieldDescriptor (TX8 k).2.2.1 = some (tyX8 k) := by decide +kernel
abbrev cX8_init : ByteArray := prog_10_method_1_code
def yX8_init : MethodName := ⟨RX8, "<init>", "(I)V"⟩
abbrev cX8_size : ByteArray := prog_10_method_2_code
def yX8_size : MethodName := ⟨RX8, "size", "()I"⟩
abbrev cX8_isFull : ByteArray := prog_10_method_3_code
def yX8_isFull : MethodName := ⟨RX8, "isFull", "()Z"⟩
abbrev cX8_get : ByteArray := prog_10_method_4_code
def yX8_get : MethodName := ⟨RX8, "get", "(I)I"⟩
abbrev cX8_add : ByteArray := prog_10_method_5_code
def yX8_add : MethodName := ⟨RX8, "add", "(I)V"⟩
abbrev cX8_insert : ByteArray := prog_10_method_6_code
def yX8_insert : MethodName := ⟨RX8, "insert", "(II)V"⟩
abbrev cX8_removeLast : ByteArray := prog_10_method_7_code
def yX8_removeLast : MethodName := ⟨RX8, "removeLast", "()V"⟩
abbrev cX8_clear : ByteArray := prog_10_method_8_code
def yX8_clear : MethodName := ⟨RX8, "clear", "()I"⟩
def RX9 : String := "DialMenus"
def TX9 : u_T := fun k => match k with
  | 0 => ("DialMenus", "text", "LDialMenus$Row;", true)
  | 1 => ("DialMenus", "input", "LDialMenus$Row;", true)
  | 2 => ("DialMenus", "keypad", "LDialMenus$Keypad;", true)
  | 3 => ("DialMenus", "roster", "LDialMenus$Roster;", true)
  | 4 => ("DialMenus", "listReader", "LDialMenus$ListReader;", true)
  | 5 => ("DialMenus", "choices", "LDialMenus$Choices;", true)
  | 6 => ("DialMenus", "readings", "LDialMenus$Readings;", true)
  | 7 => ("DialMenus", "planner", "LDialMenus$Planner;", true)
  | 8 => ("DialMenus", "present", "LDialMenus$Menu;", false)
  | 9 => ("DialMenus", "spare", "LDialMenus$Menu;", false)
  | 10 => ("DialMenus", "hasMenu", "Z", false)
  | 11 => ("DialMenus", "menusMade", "I", false)
  | 12 => ("DialMenus", "listsRead", "I", false)
  | 13 => ("DialMenus", "keypadsRead", "I", false)
  | _ => ("DialMenus", "namesRemoved", "I", false)
def tyX9 : Nat → FieldType := fun k => match k with
  | 0 => .object "DialMenus$Row"
  | 1 => .object "DialMenus$Row"
  | 2 => .object "DialMenus$Keypad"
  | 3 => .object "DialMenus$Roster"
  | 4 => .object "DialMenus$ListReader"
  | 5 => .object "DialMenus$Choices"
  | 6 => .object "DialMenus$Readings"
  | 7 => .object "DialMenus$Planner"
  | 8 => .object "DialMenus$Menu"
  | 9 => .object "DialMenus$Menu"
  | 10 => .boolean
  | 11 => .int
  | 12 => .int
  | 13 => .int
  | _ => .int
abbrev wsX90 : List Cond := u_ws RX9 TX9 15
theorem nmX9 : ∀ a, a < 15 → ∀ b, b < 15 → a ≠ b → (TX9 a).2.1 ≠ (TX9 b).2.1 := by decide +kernel
theorem tyX9_ok : ∀ k, k < 15 → parseFieldDescriptor (TX9 k).2.2.1 = some (tyX9 k) := by decide +kernel
abbrev cX9_init : ByteArray := prog_1_method_1_code
def yX9_init : MethodName := ⟨RX9, "<init>", "()V"⟩
abbrev cX9_letter : ByteArray := prog_1_method_2_code
def yX9_letter : MethodName := ⟨RX9, "letter", "(I)I"⟩
abbrev cX9_blank : ByteArray := prog_1_method_3_code
def yX9_blank : MethodName := ⟨RX9, "blank", "()I"⟩
abbrev cX9_fault : ByteArray := prog_1_method_4_code
def yX9_fault : MethodName := ⟨RX9, "fault", "()I"⟩
abbrev cX9_names : ByteArray := prog_1_method_5_code
def yX9_names : MethodName := ⟨RX9, "names", "()I"⟩
abbrev cX9_isAnyItemKnown : ByteArray := prog_1_method_6_code
def yX9_isAnyItemKnown : MethodName := ⟨RX9, "isAnyItemKnown", "()Z"⟩
abbrev cX9_dial : ByteArray := prog_1_method_7_code
def yX9_dial : MethodName := ⟨RX9, "dial", "()I"⟩
abbrev cX9_drop : ByteArray := prog_1_method_8_code
def yX9_drop : MethodName := ⟨RX9, "drop", "(I)I"⟩
abbrev cX9_use : ByteArray := prog_1_method_9_code
def yX9_use : MethodName := ⟨RX9, "use", "(II)I"⟩
abbrev cX9_name : ByteArray := prog_1_method_10_code
def yX9_name : MethodName := ⟨RX9, "name", "(II)I"⟩
abbrev cX9_sign : ByteArray := prog_1_method_11_code
def yX9_sign : MethodName := ⟨RX9, "sign", "(II)I"⟩
abbrev cX9_digit : ByteArray := prog_1_method_12_code
def yX9_digit : MethodName := ⟨RX9, "digit", "(II)I"⟩
abbrev cX9_laid : ByteArray := prog_1_method_13_code
def yX9_laid : MethodName := ⟨RX9, "laid", "(I)I"⟩
abbrev cX9_about : ByteArray := prog_1_method_14_code
def yX9_about : MethodName := ⟨RX9, "about", "(I)I"⟩
abbrev cX9_press : ByteArray := prog_1_method_15_code
def yX9_press : MethodName := ⟨RX9, "press", "(I)I"⟩
abbrev cX9_back : ByteArray := prog_1_method_16_code
def yX9_back : MethodName := ⟨RX9, "back", "()I"⟩
abbrev cX9_wipe : ByteArray := prog_1_method_17_code
def yX9_wipe : MethodName := ⟨RX9, "wipe", "()I"⟩
abbrev cX9_typed : ByteArray := prog_1_method_18_code
def yX9_typed : MethodName := ⟨RX9, "typed", "(I)I"⟩
abbrev cX9_choice : ByteArray := prog_1_method_19_code
def yX9_choice : MethodName := ⟨RX9, "choice", "(I)I"⟩
abbrev cX9_spelling : ByteArray := prog_1_method_20_code
def yX9_spelling : MethodName := ⟨RX9, "spelling", "(I)I"⟩
abbrev cX9_piece : ByteArray := prog_1_method_21_code
def yX9_piece : MethodName := ⟨RX9, "piece", "(I)I"⟩
abbrev cX9_build : ByteArray := prog_1_method_22_code
def yX9_build : MethodName := ⟨RX9, "build", "(I)I"⟩
abbrev cX9_tend : ByteArray := prog_1_method_23_code
def yX9_tend : MethodName := ⟨RX9, "tend", "(I)I"⟩
abbrev cX9_path : ByteArray := prog_1_method_24_code
def yX9_path : MethodName := ⟨RX9, "path", "(II)I"⟩
abbrev cX9_leads : ByteArray := prog_1_method_25_code
def yX9_leads : MethodName := ⟨RX9, "leads", "(I)I"⟩
abbrev cX9_menu : ByteArray := prog_1_method_26_code
def yX9_menu : MethodName := ⟨RX9, "menu", "(I)I"⟩
abbrev cX9_optimal : ByteArray := prog_1_method_27_code
def yX9_optimal : MethodName := ⟨RX9, "optimal", "(I)LDialMenus$Menu;"⟩
abbrev cX9_adoptSpare : ByteArray := prog_1_method_28_code
def yX9_adoptSpare : MethodName := ⟨RX9, "adoptSpare", "()V"⟩
abbrev cX9_count : ByteArray := prog_1_method_29_code
def yX9_count : MethodName := ⟨RX9, "count", "(I)I"⟩
abbrev cX9_digest : ByteArray := prog_1_method_30_code
def yX9_digest : MethodName := ⟨RX9, "digest", "()J"⟩
abbrev cX9_mixNames : ByteArray := prog_1_method_31_code
def yX9_mixNames : MethodName := ⟨RX9, "mixNames", "(J)J"⟩
abbrev cX9_mixPaths : ByteArray := prog_1_method_32_code
def yX9_mixPaths : MethodName := ⟨RX9, "mixPaths", "(J)J"⟩
abbrev cX9_mixRow : ByteArray := prog_1_method_33_code
def yX9_mixRow : MethodName := ⟨RX9, "mixRow", "(JLDialMenus$Row;)J"⟩
abbrev cX9_mix : ByteArray := prog_1_method_34_code
def yX9_mix : MethodName := ⟨RX9, "mix", "(JI)J"⟩
def RX10 : String := "DialMenusModel"
def TX10 : u_T := fun k => match k with
  | 0 => ("DialMenusModel", "pageLength", "I", false)
  | 1 => ("DialMenusModel", "page", "[I", true)
  | 2 => ("DialMenusModel", "names", "I", false)
  | 3 => ("DialMenusModel", "length", "[I", true)
  | 4 => ("DialMenusModel", "letters", "[I", true)
  | 5 => ("DialMenusModel", "uses", "[I", true)
  | 6 => ("DialMenusModel", "listsRead", "I", false)
  | 7 => ("DialMenusModel", "dialsRead", "I", false)
  | 8 => ("DialMenusModel", "gone", "I", false)
  | 9 => ("DialMenusModel", "digitOf", "[I", true)
  | 10 => ("DialMenusModel", "typedMany", "I", false)
  | 11 => ("DialMenusModel", "typedAt", "[I", true)
  | 12 => ("DialMenusModel", "width", "I", false)
  | 13 => ("DialMenusModel", "pathLength", "[I", true)
  | 14 => ("DialMenusModel", "steps", "[I", true)
  | 15 => ("DialMenusModel", "built", "I", false)
  | 16 => ("DialMenusModel", "stage", "I", false)
  | 17 => ("DialMenusModel", "newNames", "I", false)
  | 18 => ("DialMenusModel", "newLength", "[I", true)
  | 19 => ("DialMenusModel", "newLetters", "[I", true)
  | 20 => ("DialMenusModel", "newUses", "[I", true)
  | 21 => ("DialMenusModel", "newDigit", "[I", true)
  | 22 => ("DialMenusModel", "ways", "[I", true)
  | 23 => ("DialMenusModel", "loose", "[I", true)
  | 24 => ("DialMenusModel", "sizes", "[I", true)
  | 25 => ("DialMenusModel", "looseWays", "[I", true)
  | 26 => ("DialMenusModel", "costs", "[I", true)
  | 27 => ("DialMenusModel", "parts", "[I", true)
  | 28 => ("DialMenusModel", "newPathLength", "[I", true)
  | 29 => ("DialMenusModel", "newSteps", "[I", true)
  | 30 => ("DialMenusModel", "asked", "I", false)
  | 31 => ("DialMenusModel", "askedAt", "[I", true)
  | _ => ("DialMenusModel", "h", "J", false)
def tyX10 : Nat → FieldType := fun k => match k with
  | 0 => .int
  | 1 => .array .int
  | 2 => .int
  | 3 => .array .int
  | 4 => .array .int
  | 5 => .array .int
  | 6 => .int
  | 7 => .int
  | 8 => .int
  | 9 => .array .int
  | 10 => .int
  | 11 => .array .int
  | 12 => .int
  | 13 => .array .int
  | 14 => .array .int
  | 15 => .int
  | 16 => .int
  | 17 => .int
  | 18 => .array .int
  | 19 => .array .int
  | 20 => .array .int
  | 21 => .array .int
  | 22 => .array .int
  | 23 => .array .int
  | 24 => .array .int
  | 25 => .array .int
  | 26 => .array .int
  | 27 => .array .int
  | 28 => .array .int
  | 29 => .array .int
  | 30 => .int
  | 31 => .array .int
  | _ => .long
abbrev wsX100 : List Cond := u_ws RX10 TX10 33
theorem nmX10 : ∀ a, a < 33 → ∀ b, b < 33 → a ≠ b → (TX10 a).2.1 ≠ (TX10 b).2.1 := by decide +kernel
theorem tyX10_ok : ∀ k, k < 33 → parseFieldDescriptor (TX10 k).2.2.1 = some (tyX10 k) := by decide +kernel
abbrev cX10_init : ByteArray := prog_12_method_1_code
def yX10_init : MethodName := ⟨RX10, "<init>", "()V"⟩
abbrev cX10_within : ByteArray := prog_12_method_3_code
def yX10_within : MethodName := ⟨RX10, "within", "(III)Z"⟩
abbrev cX10_letter : ByteArray := prog_12_method_4_code
def yX10_letter : MethodName := ⟨RX10, "letter", "(I)I"⟩
abbrev cX10_blank : ByteArray := prog_12_method_5_code
def yX10_blank : MethodName := ⟨RX10, "blank", "()I"⟩
abbrev cX10_goes : ByteArray := prog_12_method_6_code
def yX10_goes : MethodName := ⟨RX10, "goes", "(ZI)Z"⟩
abbrev cX10_isNewTwice : ByteArray := prog_12_method_7_code
def yX10_isNewTwice : MethodName := ⟨RX10, "isNewTwice", "()Z"⟩
abbrev cX10_takesName : ByteArray := prog_12_method_8_code
def yX10_takesName : MethodName := ⟨RX10, "takesName", "(I)Z"⟩
abbrev cX10_takesUse : ByteArray := prog_12_method_9_code
def yX10_takesUse : MethodName := ⟨RX10, "takesUse", "(I)Z"⟩
abbrev cX10_takes : ByteArray := prog_12_method_10_code
def yX10_takes : MethodName := ⟨RX10, "takes", "(I)Z"⟩
abbrev cX10_read : ByteArray := prog_12_method_11_code
def yX10_read : MethodName := ⟨RX10, "read", "()I"⟩
abbrev cX10_fault : ByteArray := prog_12_method_12_code
def yX10_fault : MethodName := ⟨RX10, "fault", "()I"⟩
abbrev cX10_compareNew : ByteArray := prog_12_method_13_code
def yX10_compareNew : MethodName := ⟨RX10, "compareNew", "(II)I"⟩
abbrev cX10_isThere : ByteArray := prog_12_method_14_code
def yX10_isThere : MethodName := ⟨RX10, "isThere", "(I)Z"⟩
abbrev cX10_moveName : ByteArray := prog_12_method_15_code
def yX10_moveName : MethodName := ⟨RX10, "moveName", "(II)V"⟩
abbrev cX10_comes : ByteArray := prog_12_method_16_code
def yX10_comes : MethodName := ⟨RX10, "comes", "(I)V"⟩
abbrev cX10_names : ByteArray := prog_12_method_17_code
def yX10_names : MethodName := ⟨RX10, "names", "()I"⟩
abbrev cX10_isDial : ByteArray := prog_12_method_18_code
def yX10_isDial : MethodName := ⟨RX10, "isDial", "()Z"⟩
abbrev cX10_dial : ByteArray := prog_12_method_19_code
def yX10_dial : MethodName := ⟨RX10, "dial", "()I"⟩
abbrev cX10_isName : ByteArray := prog_12_method_20_code
def yX10_isName : MethodName := ⟨RX10, "isName", "(I)Z"⟩
abbrev cX10_drop : ByteArray := prog_12_method_21_code
def yX10_drop : MethodName := ⟨RX10, "drop", "(I)I"⟩
abbrev cX10_use : ByteArray := prog_12_method_22_code
def yX10_use : MethodName := ⟨RX10, "use", "(II)I"⟩
abbrev cX10_codeAt : ByteArray := prog_12_method_23_code
def yX10_codeAt : MethodName := ⟨RX10, "codeAt", "(II)I"⟩
abbrev cX10_begins : ByteArray := prog_12_method_24_code
def yX10_begins : MethodName := ⟨RX10, "begins", "(III)Z"⟩
abbrev cX10_isTwin : ByteArray := prog_12_method_25_code
def yX10_isTwin : MethodName := ⟨RX10, "isTwin", "(II)Z"⟩
abbrev cX10_twins : ByteArray := prog_12_method_26_code
def yX10_twins : MethodName := ⟨RX10, "twins", "(I)I"⟩
abbrev cX10_telling : ByteArray := prog_12_method_27_code
def yX10_telling : MethodName := ⟨RX10, "telling", "(I)I"⟩
abbrev cX10_isAhead : ByteArray := prog_12_method_28_code
def yX10_isAhead : MethodName := ⟨RX10, "isAhead", "(II)Z"⟩
abbrev cX10_placeIn : ByteArray := prog_12_method_29_code
def yX10_placeIn : MethodName := ⟨RX10, "placeIn", "(II)I"⟩
abbrev cX10_presses : ByteArray := prog_12_method_30_code
def yX10_presses : MethodName := ⟨RX10, "presses", "(I)I"⟩
abbrev cX10_nameNow : ByteArray := prog_12_method_31_code
def yX10_nameNow : MethodName := ⟨RX10, "nameNow", "(II)I"⟩
abbrev cX10_name : ByteArray := prog_12_method_32_code
def yX10_name : MethodName := ⟨RX10, "name", "(II)I"⟩
abbrev cX10_sign : ByteArray := prog_12_method_33_code
def yX10_sign : MethodName := ⟨RX10, "sign", "(II)I"⟩
abbrev cX10_digit : ByteArray := prog_12_method_34_code
def yX10_digit : MethodName := ⟨RX10, "digit", "(II)I"⟩
abbrev cX10_laid : ByteArray := prog_12_method_35_code
def yX10_laid : MethodName := ⟨RX10, "laid", "(I)I"⟩
abbrev cX10_usesAll : ByteArray := prog_12_method_36_code
def yX10_usesAll : MethodName := ⟨RX10, "usesAll", "()I"⟩
abbrev cX10_withTwins : ByteArray := prog_12_method_37_code
def yX10_withTwins : MethodName := ⟨RX10, "withTwins", "()I"⟩
abbrev cX10_codesMany : ByteArray := prog_12_method_38_code
def yX10_codesMany : MethodName := ⟨RX10, "codesMany", "()I"⟩
abbrev cX10_mostTelling : ByteArray := prog_12_method_39_code
def yX10_mostTelling : MethodName := ⟨RX10, "mostTelling", "()I"⟩
abbrev cX10_pressesAll : ByteArray := prog_12_method_40_code
def yX10_pressesAll : MethodName := ⟨RX10, "pressesAll", "()I"⟩
abbrev cX10_digitsAll : ByteArray := prog_12_method_41_code
def yX10_digitsAll : MethodName := ⟨RX10, "digitsAll", "()I"⟩
abbrev cX10_aboutNow : ByteArray := prog_12_method_42_code
def yX10_aboutNow : MethodName := ⟨RX10, "aboutNow", "(I)I"⟩
abbrev cX10_about : ByteArray := prog_12_method_43_code
def yX10_about : MethodName := ⟨RX10, "about", "(I)I"⟩
abbrev cX10_press : ByteArray := prog_12_method_44_code
def yX10_press : MethodName := ⟨RX10, "press", "(I)I"⟩
abbrev cX10_back : ByteArray := prog_12_method_45_code
def yX10_back : MethodName := ⟨RX10, "back", "()I"⟩
abbrev cX10_wipe : ByteArray := prog_12_method_46_code
def yX10_wipe : MethodName := ⟨RX10, "wipe", "()I"⟩
abbrev cX10_typed : ByteArray := prog_12_method_47_code
def yX10_typed : MethodName := ⟨RX10, "typed", "(I)I"⟩
abbrev cX10_isChosen : ByteArray := prog_12_method_48_code
def yX10_isChosen : MethodName := ⟨RX10, "isChosen", "(I)Z"⟩
abbrev cX10_chosenAhead : ByteArray := prog_12_method_49_code
def yX10_chosenAhead : MethodName := ⟨RX10, "chosenAhead", "(I)I"⟩
abbrev cX10_choice : ByteArray := prog_12_method_50_code
def yX10_choice : MethodName := ⟨RX10, "choice", "(I)I"⟩
abbrev cX10_fitsAt : ByteArray := prog_12_method_51_code
def yX10_fitsAt : MethodName := ⟨RX10, "fitsAt", "(II)Z"⟩
abbrev cX10_takesPiece : ByteArray := prog_12_method_52_code
def yX10_takesPiece : MethodName := ⟨RX10, "takesPiece", "(III)V"⟩
abbrev cX10_laySpellings : ByteArray := prog_12_method_53_code
def yX10_laySpellings : MethodName := ⟨RX10, "laySpellings", "()V"⟩
abbrev cX10_spellingNow : ByteArray := prog_12_method_54_code
def yX10_spellingNow : MethodName := ⟨RX10, "spellingNow", "(I)I"⟩
abbrev cX10_spelling : ByteArray := prog_12_method_55_code
def yX10_spelling : MethodName := ⟨RX10, "spelling", "(I)I"⟩
abbrev cX10_bestName : ByteArray := prog_12_method_56_code
def yX10_bestName : MethodName := ⟨RX10, "bestName", "(I)I"⟩
abbrev cX10_pieceNow : ByteArray := prog_12_method_57_code
def yX10_pieceNow : MethodName := ⟨RX10, "pieceNow", "(I)I"⟩
abbrev cX10_piece : ByteArray := prog_12_method_58_code
def yX10_piece : MethodName := ⟨RX10, "piece", "(I)I"⟩
abbrev cX10_usesOf : ByteArray := prog_12_method_59_code
def yX10_usesOf : MethodName := ⟨RX10, "usesOf", "(II)I"⟩
abbrev cX10_costAt : ByteArray := prog_12_method_60_code
def yX10_costAt : MethodName := ⟨RX10, "costAt", "(II)I"⟩
abbrev cX10_partsAt : ByteArray := prog_12_method_61_code
def yX10_partsAt : MethodName := ⟨RX10, "partsAt", "(III)I"⟩
abbrev cX10_bestParts : ByteArray := prog_12_method_62_code
def yX10_bestParts : MethodName := ⟨RX10, "bestParts", "(III)I"⟩
abbrev cX10_layCosts : ByteArray := prog_12_method_63_code
def yX10_layCosts : MethodName := ⟨RX10, "layCosts", "(I)V"⟩
abbrev cX10_layStretch : ByteArray := prog_12_method_64_code
def yX10_layStretch : MethodName := ⟨RX10, "layStretch", "(III)V"⟩
abbrev cX10_partsOf : ByteArray := prog_12_method_65_code
def yX10_partsOf : MethodName := ⟨RX10, "partsOf", "(III)I"⟩
abbrev cX10_firstCut : ByteArray := prog_12_method_66_code
def yX10_firstCut : MethodName := ⟨RX10, "firstCut", "(III)I"⟩
abbrev cX10_layPath : ByteArray := prog_12_method_67_code
def yX10_layPath : MethodName := ⟨RX10, "layPath", "(II)V"⟩
abbrev cX10_layMenu : ByteArray := prog_12_method_68_code
def yX10_layMenu : MethodName := ⟨RX10, "layMenu", "(I)V"⟩
abbrev cX10_isPathChanged : ByteArray := prog_12_method_69_code
def yX10_isPathChanged : MethodName := ⟨RX10, "isPathChanged", "(I)Z"⟩
abbrev cX10_takeMenu : ByteArray := prog_12_method_70_code
def yX10_takeMenu : MethodName := ⟨RX10, "takeMenu", "(I)I"⟩
abbrev cX10_costNow : ByteArray := prog_12_method_71_code
def yX10_costNow : MethodName := ⟨RX10, "costNow", "()I"⟩
abbrev cX10_leastCost : ByteArray := prog_12_method_72_code
def yX10_leastCost : MethodName := ⟨RX10, "leastCost", "()I"⟩
abbrev cX10_build : ByteArray := prog_12_method_73_code
def yX10_build : MethodName := ⟨RX10, "build", "(I)I"⟩
abbrev cX10_tend : ByteArray := prog_12_method_74_code
def yX10_tend : MethodName := ⟨RX10, "tend", "(I)I"⟩
abbrev cX10_path : ByteArray := prog_12_method_75_code
def yX10_path : MethodName := ⟨RX10, "path", "(II)I"⟩
abbrev cX10_layAsked : ByteArray := prog_12_method_76_code
def yX10_layAsked : MethodName := ⟨RX10, "layAsked", "(I)Z"⟩
abbrev cX10_isLed : ByteArray := prog_12_method_77_code
def yX10_isLed : MethodName := ⟨RX10, "isLed", "(I)Z"⟩
abbrev cX10_leads : ByteArray := prog_12_method_78_code
def yX10_leads : MethodName := ⟨RX10, "leads", "(I)I"⟩
abbrev cX10_longest : ByteArray := prog_12_method_79_code
def yX10_longest : MethodName := ⟨RX10, "longest", "()I"⟩
abbrev cX10_isSamePath : ByteArray := prog_12_method_80_code
def yX10_isSamePath : MethodName := ⟨RX10, "isSamePath", "(III)Z"⟩
abbrev cX10_menusMany : ByteArray := prog_12_method_81_code
def yX10_menusMany : MethodName := ⟨RX10, "menusMany", "()I"⟩
abbrev cX10_wholeParts : ByteArray := prog_12_method_82_code
def yX10_wholeParts : MethodName := ⟨RX10, "wholeParts", "()I"⟩
abbrev cX10_menuNow : ByteArray := prog_12_method_83_code
def yX10_menuNow : MethodName := ⟨RX10, "menuNow", "(I)I"⟩
abbrev cX10_menu : ByteArray := prog_12_method_84_code
def yX10_menu : MethodName := ⟨RX10, "menu", "(I)I"⟩
abbrev cX10_howMany : ByteArray := prog_12_method_85_code
def yX10_howMany : MethodName := ⟨RX10, "howMany", "(I)I"⟩
abbrev cX10_count : ByteArray := prog_12_method_86_code
def yX10_count : MethodName := ⟨RX10, "count", "(I)I"⟩
abbrev cX10_mix : ByteArray := prog_12_method_87_code
def yX10_mix : MethodName := ⟨RX10, "mix", "(J)V"⟩
abbrev cX10_mixName : ByteArray := prog_12_method_88_code
def yX10_mixName : MethodName := ⟨RX10, "mixName", "(I)V"⟩
abbrev cX10_mixTyped : ByteArray := prog_12_method_89_code
def yX10_mixTyped : MethodName := ⟨RX10, "mixTyped", "()V"⟩
abbrev cX10_mixMenu : ByteArray := prog_12_method_90_code
def yX10_mixMenu : MethodName := ⟨RX10, "mixMenu", "()V"⟩
abbrev cX10_digest : ByteArray := prog_12_method_91_code
def yX10_digest : MethodName := ⟨RX10, "digest", "()J"⟩
def RJx8e188 : String := "java/lang/Cloneable"
def RJ9 : String := "java/lang/Math"
abbrev cJ9_max_7cf53 : ByteArray := prog_14_method_65_code
def yJ9_max_7cf53 : MethodName := ⟨RJ9, "max", "(II)I"⟩
abbrev cJ9_min_7cf53 : ByteArray := prog_14_method_69_code
def yJ9_min_7cf53 : MethodName := ⟨RJ9, "min", "(II)I"⟩
def RJ10 : String := "java/lang/System"
def RJ7 : String := "java/util/Arrays"
abbrev cJ7_fill_53178 : ByteArray := prog_16_method_103_code
def yJ7_fill_53178 : MethodName := ⟨RJ7, "fill", "([II)V"⟩
def RL : String := "DialMenusLaw"
abbrev cL_law : ByteArray := code
def yL_law : MethodName := ⟨RL, "law", "([I)Z"⟩
end
section
/-! THE ABSTRACT HEAP: a number of cells, at relative addresses; each has a kind (the class's number, or 11 int[], 12 Entry[], 13 int[][]) and a length; ints, references and longs by address and place -/
abbrev Hp : Type := Nat × (Nat → Nat × Nat) × (Nat → Nat → Int32) × (Nat → Nat → Option Nat) × (Nat → Nat → Int64)
def hN (h : Hp) : Nat := h.1
def hK (h : Hp) : Nat → Nat × Nat := h.2.1
def hI (h : Hp) : Nat → Nat → Int32 := h.2.2.1
def hR (h : Hp) : Nat → Nat → Option Nat := h.2.2.2.1
def hJ (h : Hp) : Nat → Nat → Int64 := h.2.2.2.2
def u2 {α : Type} (f : Nat → Nat → α) (a k : Nat) (v : α) : Nat → Nat → α := fun b j => if b = a ∧ j = k then v else f b j
def nr {α : Type} (f : Nat → Nat → α) (a : Nat) (v : Nat → α) : Nat → Nat → α := fun b j => if b = a then v j else f b j
def setI (h : Hp) (a k : Nat) (v : Int32) : Hp := (h.1, h.2.1, u2 h.2.2.1 a k v, h.2.2.2.1, h.2.2.2.2)
def setR (h : Hp) (a k : Nat) (v : Option Nat) : Hp := (h.1, h.2.1, h.2.2.1, u2 h.2.2.2.1 a k v, h.2.2.2.2)
def setJ (h : Hp) (a k : Nat) (v : Int64) : Hp := (h.1, h.2.1, h.2.2.1, h.2.2.2.1, u2 h.2.2.2.2 a k v)
/-- an int array's contents are written anew, as a whole -/
def setA (h : Hp) (a : Nat) (f : Nat → Int32) : Hp := (h.1, h.2.1, nr h.2.2.1 a f, h.2.2.2.1, h.2.2.2.2)
/-- a new cell of a kind and a length, with these ints and no references -/
def newC (h : Hp) (c len : Nat) (f : Nat → Int32) : Hp := (h.1 + 1, va_up h.2.1 h.1 (c, len), nr h.2.2.1 h.1 f, nr h.2.2.2.1 h.1 (fun _ => none), nr h.2.2.2.2 h.1 (fun _ => 0))
/-- new int[n][k]: the outer one first, the inner ones behind it -/
def newM (h : Hp) (n k : Nat) : Hp := (h.1 + 1 + n, (fun b => if b = h.1 then (13, n) else if h.1 < b ∧ b < h.1 + 1 + n then (11, k) else h.2.1 b), (fun b j => if h.1 ≤ b ∧ b < h.1 + 1 + n then 0 else h.2.2.1 b j),
  (fun b j => if b = h.1 then (if j < n then some (h.1 + 1 + j) else none) else if h.1 < b ∧ b < h.1 + 1 + n then none else h.2.2.2.1 b j), (fun b j => if h.1 ≤ b ∧ b < h.1 + 1 + n then 0 else h.2.2.2.2 b j))
abbrev isO (h : Hp) (c a : Nat) : Prop := a < hN h ∧ (hK h a).1 = c
abbrev inA (i : Int32) (n : Nat) : Prop := 0 ≤ i.toInt ∧ i.toInt < (n : Int)
/-- the cell at a is of class c, or the road has no end -/
def gd {α : Type} (h : Hp) (c a : Nat) (o : Option α) : Option α := if a < hN h ∧ (hK h a).1 = c then o else none
def getI (h : Hp) (c a k : Nat) : Option Int32 := if a < hN h ∧ (hK h a).1 = c then some (hI h a k) else none
def getJ (h : Hp) (c a k : Nat) : Option Int64 := if a < hN h ∧ (hK h a).1 = c then some (hJ h a k) else none
def getR (h : Hp) (c a k : Nat) : Option Nat := if a < hN h ∧ (hK h a).1 = c then hR h a k else none
def putI (h : Hp) (c a k : Nat) (v : Int32) : Option Hp := if a < hN h ∧ (hK h a).1 = c then some (setI h a k v) else none
def putJ (h : Hp) (c a k : Nat) (v : Int64) : Option Hp := if a < hN h ∧ (hK h a).1 = c then some (setJ h a k v) else none
def putR (h : Hp) (c a k v : Nat) : Option Hp := if a < hN h ∧ (hK h a).1 = c then some (setR h a k (some v)) else none
def ald (h : Hp) (a : Nat) (i : Int32) : Option Int32 := if (a < hN h ∧ (hK h a).1 = 11) ∧ inA i (hK h a).2 then some (hI h a i.toInt.toNat) else none
def ast (h : Hp) (a : Nat) (i v : Int32) : Option Hp := if (a < hN h ∧ (hK h a).1 = 11) ∧ inA i (hK h a).2 then some (setI h a i.toInt.toNat v) else none
/-- Entry[]: a reference or null -/
def aldN (h : Hp) (a : Nat) (i : Int32) : Option (Option Nat) := if (a < hN h ∧ (hK h a).1 = 12) ∧ inA i (hK h a).2 then some (hR h a i.toInt.toNat) else none
/-- int[][]: a row that is there -/
def aldA (h : Hp) (a : Nat) (i : Int32) : Option Nat := if (a < hN h ∧ (hK h a).1 = 13) ∧ inA i (hK h a).2 then hR h a i.toInt.toNat else none
def astN (h : Hp) (a : Nat) (i : Int32) (v : Option Nat) : Option Hp := if ((a < hN h ∧ (hK h a).1 = 12) ∧ inA i (hK h a).2) ∧ (∀ x ∈ v, x < hN h ∧ (hK h x).1 = 1) then some (setR h a i.toInt.toNat v) else none
def aln (h : Hp) (c a : Nat) : Option Int32 := if a < hN h ∧ (hK h a).1 = c then some (Int32.ofNat (hK h a).2) else none
/-- new int[i], of at most B places -/
def newA (h : Hp) (B : Nat) (i : Int32) : Option Hp := if 0 ≤ i.toInt ∧ i.toInt ≤ (B : Int) then some (newC h 11 i.toInt.toNat (fun _ => 0)) else none
def newE (h : Hp) (B : Nat) (i : Int32) : Option Hp := if 0 ≤ i.toInt ∧ i.toInt ≤ (B : Int) then some (newC h 12 i.toInt.toNat (fun _ => 0)) else none
/-- System.arraycopy between int arrays -/
def acpy (h : Hp) (a : Nat) (sp : Int32) (b : Nat) (dp n : Int32) : Option Hp := if (a < hN h ∧ (hK h a).1 = 11) ∧ (b < hN h ∧ (hK h b).1 = 11) ∧ 0 ≤ sp.toInt ∧ 0 ≤ dp.toInt ∧ 0 ≤ n.toInt ∧ sp.toInt + n.toInt ≤ ((hK h a).2 : Int) ∧ dp.toInt + n.toInt ≤ ((hK h b).2 : Int)
  then some (setA h b (va_cpy (hI h a) (hI h b) sp.toInt.toNat dp.toInt.toNat n.toInt.toNat)) else none
/-- an answer that must be 0 or 1 -/
def rz (v : Int32) : Option Int32 := if v = 0 ∨ v = 1 then some v else none
def imx (x y : Int32) : Int32 := if x < y then y else x
def imn (x y : Int32) : Int32 := if y < x then y else x
end
section
/-! THE MACHINE'S HEAP AGAINST THE ABSTRACT ONE -/
def vwCl : List vw_C := [(RX0, TX0, 1), (RX1, TX1, 3), (RX2, TX2, 2), (RX3, TX3, 6), (RX4, TX4, 6), (RX5, TX5, 4), (RX6, TX6, 5), (RX7, TX7, 2), (RX8, TX8, 2), (RX9, TX9, 15), (RX10, TX10, 33)]
def tyC (c : Nat) : Nat → FieldType := match c with
  | 0 => tyX0 | 1 => tyX1 | 2 => tyX2 | 3 => tyX3 | 4 => tyX4 | 5 => tyX5 | 6 => tyX6 | 7 => tyX7 | 8 => tyX8 | 9 => tyX9 | _ => tyX10
/-- launch, base, classes' numbers, slots, array classes (int[], Entry[], int[][]), the static array's address -/
abbrev EN : Type := Launch × Nat × (Nat → ClassId) × (Nat → Nat → Nat) × (Nat → ClassId) × Nat
def nB (en : EN) : Nat := en.2.1
def nC (en : EN) : Nat → ClassId := en.2.2.1
def nI_ (en : EN) : Nat → Nat → Nat := en.2.2.2.1
def nA (en : EN) : Nat → ClassId := en.2.2.2.2.1
def nK (en : EN) : Nat := en.2.2.2.2.2
def rl (b : Nat) (r : Option Nat) : Value := match r with
  | none => .null
  | some a => .ref (b + a)
def fv (b : Nat) (h : Hp) (q : Nat) (ty : FieldType) (j : Nat) : Value := match ty with
  | .int => .int (hI h q j)
  | .boolean => .int (hI h q j)
  | .long => .long (hJ h q j)
  | _ => rl b (hR h q j)
def cellAt (en : EN) (h : Hp) (q : Nat) (H : Heap) : Prop :=
  if (hK h q).1 = 11 then H[nB en + q]? = some (arrV (nA en 0) (hK h q).2 (fun j => .int (hI h q j)))
  else if (hK h q).1 = 12 then H[nB en + q]? = some (arrV (nA en 1) (hK h q).2 (fun j => rl (nB en) (hR h q j)))
  else if (hK h q).1 = 13 then H[nB en + q]? = some (arrV (nA en 2) (hK h q).2 (fun j => rl (nB en) (hR h q j)))
  else ∃ r : vw_C, vwCl[(hK h q).1]? = some r ∧ t_OB (nB en + q) (nC en (hK h q).1) r.2.2 (nI_ en (hK h q).1) H (fun j => fv (nB en) h q (tyC (hK h q).1 j) j)
def Rep (en : EN) (h : Hp) (H : Heap) : Prop := H.size = nB en + hN h ∧ ∀ q, q < hN h → cellAt en h q H
theorem cellAt.int {en : EN} {h : Hp} {q : Nat} {H : Heap} (hk : (hK h q).1 = 11) : cellAt en h q H ↔ H[nB en + q]? = some (arrV (nA en 0) (hK h q).2 (fun j => .int (hI h q j))) := by
  unfold cellAt; rw [if_pos hk]
theorem cellAt.ent {en : EN} {h : Hp} {q : Nat} {H : Heap} (hk : (hK h q).1 = 12) : cellAt en h q H ↔ H[nB en + q]? = some (arrV (nA en 1) (hK h q).2 (fun j => rl (nB en) (hR h q j))) := by
  unfold cellAt; rw [if_neg (by omega), if_pos hk]
theorem cellAt.row {en : EN} {h : Hp} {q : Nat} {H : Heap} (hk : (hK h q).1 = 13) : cellAt en h q H ↔ H[nB en + q]? = some (arrV (nA en 2) (hK h q).2 (fun j => rl (nB en) (hR h q j))) := by
  unfold cellAt; rw [if_neg (by omega), if_neg (by omega), if_pos hk]
theorem cellAt.obj {en : EN} {h : Hp} {q : Nat} {H : Heap} {c : Nat} (hk : (hK h q).1 = c) (hc : c < 11) : cellAt en h q H ↔ ∃ r : vw_C, vwCl[c]? = some r ∧ t_OB (nB en + q) (nC en c) r.2.2 (nI_ en c) H (fun j => fv (nB en) h q (tyC c j) j) := by
  unfold cellAt; rw [if_neg (by omega), if_neg (by omega), if_neg (by omega), hk]
theorem cellAt.kept {en : EN} {h h' : Hp} {q : Nat} {H H' : Heap} (hc : cellAt en h q H) (hk : hK h' q = hK h q) (hi : ∀ j, hI h' q j = hI h q j) (hr : ∀ j, hR h' q j = hR h q j) (hj : ∀ j, hJ h' q j = hJ h q j) (hq : H'[nB en + q]? = H[nB en + q]?) : cellAt en h' q H' := by
  have e1 : hI h' q = hI h q := funext hi
  have e2 : hR h' q = hR h q := funext hr
  have e3 : hJ h' q = hJ h q := funext hj
  unfold cellAt at hc ⊢
  rw [hk, hq]
  split
  · next g => rw [if_pos g] at hc; rw [hc, e1]
  · next g =>
    rw [if_neg g] at hc
    split
    · next g => rw [if_pos g] at hc; rw [hc, e2]
    · next g =>
      rw [if_neg g] at hc
      split
      · next g => rw [if_pos g] at hc; rw [hc, e2]
      · next g =>
        rw [if_neg g] at hc
        obtain ⟨r, h1, h2⟩ := hc
        refine ⟨r, h1, (h2.kept hq).to (fun j _ => ?_)⟩
        unfold fv
        rw [e1, e2, e3]
theorem cellAt.there {en : EN} {h : Hp} {q : Nat} {H : Heap} (hc : cellAt en h q H) : ∃ cell : Cell, H[nB en + q]? = some cell := by
  unfold cellAt at hc
  split at hc
  · exact ⟨_, hc⟩
  · split at hc
    · exact ⟨_, hc⟩
    · split at hc
      · exact ⟨_, hc⟩
      · obtain ⟨_, _, cell, h1, _⟩ := hc
        exact ⟨cell, h1⟩
/-- one cell is written, all others stay -/
theorem Rep.put {en : EN} {h h' : Hp} {H H' : Heap} {a : Nat} (hR0 : Rep en h H) (hn : hN h' = hN h) (hz : H'.size = H.size) (ho : ∀ q, q ≠ nB en + a → H'[q]? = H[q]?)
    (hk : ∀ q, q ≠ a → hK h' q = hK h q) (hi : ∀ q, q ≠ a → ∀ j, hI h' q j = hI h q j) (hr : ∀ q, q ≠ a → ∀ j, hR h' q j = hR h q j) (hj : ∀ q, q ≠ a → ∀ j, hJ h' q j = hJ h q j) (ha : cellAt en h' a H') : Rep en h' H' := by
  refine ⟨by rw [hz, hR0.1, hn], fun q hq => ?_⟩
  by_cases e : q = a
  · subst e; exact ha
  · exact (hR0.2 q (by rw [← hn]; exact hq)).kept (hk q e) (hi q e) (hr q e) (hj q e) (ho _ (by omega))
theorem Rep.setI {en : EN} {h : Hp} {H H' : Heap} {a k : Nat} {v : Int32} (hR0 : Rep en h H) (hz : H'.size = H.size) (ho : ∀ q, q ≠ nB en + a → H'[q]? = H[q]?) (ha : cellAt en (setI h a k v) a H') : Rep en (setI h a k v) H' :=
  hR0.put rfl hz ho (fun _ _ => rfl) (fun q e j => by show u2 _ _ _ _ q j = _; simp [u2, e, hI]) (fun _ _ _ => rfl) (fun _ _ _ => rfl) ha
theorem Rep.setR {en : EN} {h : Hp} {H H' : Heap} {a k : Nat} {v : Option Nat} (hR0 : Rep en h H) (hz : H'.size = H.size) (ho : ∀ q, q ≠ nB en + a → H'[q]? = H[q]?) (ha : cellAt en (setR h a k v) a H') : Rep en (setR h a k v) H' :=
  hR0.put rfl hz ho (fun _ _ => rfl) (fun _ _ _ => rfl) (fun q e j => by show u2 _ _ _ _ q j = _; simp [u2, e, hR]) (fun _ _ _ => rfl) ha
theorem Rep.setJ {en : EN} {h : Hp} {H H' : Heap} {a k : Nat} {v : Int64} (hR0 : Rep en h H) (hz : H'.size = H.size) (ho : ∀ q, q ≠ nB en + a → H'[q]? = H[q]?) (ha : cellAt en (setJ h a k v) a H') : Rep en (setJ h a k v) H' :=
  hR0.put rfl hz ho (fun _ _ => rfl) (fun _ _ _ => rfl) (fun _ _ _ => rfl) (fun q e j => by show u2 _ _ _ _ q j = _; simp [u2, e, hJ]) ha
theorem Rep.setA {en : EN} {h : Hp} {H H' : Heap} {a : Nat} {f : Nat → Int32} (hR0 : Rep en h H) (hz : H'.size = H.size) (ho : ∀ q, q ≠ nB en + a → H'[q]? = H[q]?) (ha : cellAt en (setA h a f) a H') : Rep en (setA h a f) H' :=
  hR0.put rfl hz ho (fun _ _ => rfl) (fun q e j => by show nr _ _ _ q j = _; simp [nr, e, hI]) (fun _ _ _ => rfl) (fun _ _ _ => rfl) ha
theorem Rep.newC {en : EN} {h : Hp} {H H' : Heap} {c len : Nat} {f : Nat → Int32} (hR0 : Rep en h H) (hz : H'.size = H.size + 1) (ho : ∀ q, q < H.size → H'[q]? = H[q]?) (ha : cellAt en (newC h c len f) (hN h) H') : Rep en (newC h c len f) H' := by
  refine ⟨by rw [hz, hR0.1]; rfl, fun q hq => ?_⟩
  by_cases e : q = hN h
  · subst e; exact ha
  · have hq' : q < hN h + 1 := hq
    have e' : ¬ q = h.1 := e
    refine (hR0.2 q (by omega)).kept ?_ (fun j => ?_) (fun j => ?_) (fun j => ?_) (ho _ (by rw [hR0.1]; omega))
    · show va_up _ _ _ q = _; simp [va_up, e', hK]
    · show nr _ _ _ q j = _; simp [nr, e', hI]
    · show nr _ _ (fun _ => none) q j = _; simp [nr, e', hR]
    · show nr _ _ (fun _ => 0) q j = _; simp [nr, e', hJ]
def RX1s : String := "DialMenus$Entry"
def tys0 (en : EN) : List (ClassId × FieldType) := [(nA en 0, .int), (nA en 1, .object "DialMenus$Entry"), (nA en 2, .array .int)]
def kpf (j : Nat) : Int32 := (([2, 2, 2, 3, 3, 3, 4, 4, 4, 5, 5, 5, 6, 6, 6, 7, 7, 7, 7, 8, 8, 8, 9, 9, 9, 9] : List Int32).getD j 0)
/-- the static array of the class's first keypad -/
def KPat (en : EN) (H : Heap) : Prop := nK en < nB en ∧ ∃ cell : Cell, H[nK en]? = some cell ∧ (∀ k, cell.vm ≠ .statics k) ∧ cell.vm ≠ .unknown ∧ cell.cls = nA en 0 ∧ cell.slots = (arrV (nA en 0) 26 (fun j => .int (kpf j))).slots
def okW : Cond → Bool
  | .arrayClass _ => true
  | .arrayOver _ => true
  | .fieldLinkNest _ _ _ _ _ _ => true
  | .methodLinkNest _ _ _ _ => true
  | .castable _ _ => true
  | w => w.onTables && w.keeps
/-- what holds of the machine's tables and of the static array in every state that the law reaches -/
def Env0 (en : EN) (U : State) (H : Heap) : Prop := (∀ w ∈ lw_tbl, okW w = true → w.before #[] U = true) ∧ va_K (nC en, nI_ en) vwCl (tys0 en) U ∧ va_Z "DialMenus" "FIRST_KEYPAD" "[I" (.ref (nK en)) (fun q => nB en ≤ q) U H ∧ KPat en H
theorem okW_args {w : Cond} (hw : okW w = true) {A A' : Array Value} {u U : State} (hv : u.vm = U.vm) (h : w.before A u = true) : w.before A' U = true := by
  cases w <;> first
    | exact va_tabs rfl hv h
    | (exact absurd hw (by decide))
    | (have hc := hw; simp only [okW, Bool.and_eq_true] at hc; exact va_tabs hc.1 hv h)
    | (have e : A = A := rfl; cases u; cases U; cases hv; exact h)
theorem okW_warm {w : Cond} (hw : okW w = true) {s U : State} (hW : s.WarmedH U.vm) (h : w.before #[] s = true) : w.before #[] U = true := by
  cases w <;> first
    | exact va_Nw.warmF hW h
    | exact va_Nw.warmM hW h
    | exact va_Nw.warmC hW h
    | exact word_at hW (Or.inr ⟨_, rfl⟩) h
    | (exact word_at hW (Or.inl hw) h)
    | (have e := Cond.arrayOver_setVmC (args := #[]) (s := s) (vm' := U.vm) hW.alike; exact okW_args (u := s.setVm U.vm) hw rfl ((e _).trans h))
end
section
/-! A METHOD'S WALK OVER THE ABSTRACT HEAP: 'Xo' says that the machine, at pc with these locals, this stack and this heap, comes to the end that the value x0 of the road o tells -/
abbrev XC : Type := EN × Program × Env × Room × State × MethodId × Array Value × List Frame × Method × Code × (State → Prop)
def Xo {α : Type} (g : XC) (x0 : α) (nL k n pc : Nat) (lv : List (Nat × Value)) (st : List Value) (h : Hp) (o : Option α) : Prop :=
  o = some x0 → ∀ (ls : Array Slot) (H : Heap) (locs : List Loc), lv_has ls nL lv → Rep g.1 h H → va_S (fun q => nB g.1 ≤ q) g.2.2.2.2.1.heap H locs →
    W g.2.1 g.1.1 g.2.2.1 g.2.2.2.1 g.2.2.2.2.1 g.2.2.2.2.2.1 g.2.2.2.2.2.2.1 g.2.2.2.2.2.2.2.1 g.2.2.2.2.2.2.2.2.1 g.2.2.2.2.2.2.2.2.2.1 H locs k n g.2.2.2.2.2.2.2.2.2.2 (F0 g.2.2.2.2.2.1 pc ls st)
/-- what a walk may lean on: the machine, the code, the class, the tables, the room -/
def XG (g : XC) (own : String) (cc : ByteArray) (nL fr lo mc ms : Nat) : Prop :=
  g.2.1.tables.exec = Jvm.exec ∧ g.2.2.2.2.2.2.2.2.2.1.code = cc ∧ g.2.2.2.2.2.2.2.2.2.1.maxLocals = nL ∧ g.2.2.2.2.1.vm.findClass own = some g.2.2.2.2.2.1.cls ∧ Env0 g.1 g.2.2.2.2.1 g.2.2.2.2.1.heap ∧ nB g.1 ≤ g.2.2.2.2.1.heap.size ∧ g.2.2.2.1 = { frames := fr, cells := mc, slots := ms, locals := lo }
def QcM (en : EN) (r0 : Option Value) (h0 : Hp) : Array Value → State → Outcome → State → Prop := fun _ st oc t => oc = .returned r0 ∧ Rep en h0 t.heap ∧ va_F (fun q => nB en ≤ q) st t
/-- the method's end: its answer, its heap -/
def XR (g : XC) (ret : Option FieldType) (nm : String) (r0 : Option Value) (h0 : Hp) (mc ms : Nat) : Prop :=
  g.2.2.2.2.2.2.2.2.1.sig.returnType = ret ∧ g.2.2.2.2.2.2.2.2.1.locks = false ∧ g.2.2.2.2.2.2.2.2.1.name = nm ∧ g.2.2.2.2.2.2.2.2.2.2 = MQ g.2.2.2.2.2.2.2.1 (QcM g.1 r0 h0) g.2.2.2.2.2.2.1 g.2.2.2.2.1 mc ms (fun q => nB g.1 ≤ q)
theorem XG.w {g : XC} {own : String} {cc : ByteArray} {nL fr lo mc ms : Nat} (hg : XG g own cc nL fr lo mc ms) {w : Cond} (hw : w ∈ lw_tbl) (hk : okW w = true) {A : Array Value} : w.before A g.2.2.2.2.1 = true := okW_args hk rfl (hg.2.2.2.2.1.1 w hw hk)
section
variable {α : Type} {g : XC} {x0 : α} {own : String} {cc : ByteArray} {nL fr lo mc ms k n pc : Nat} {lv lv' : List (Nat × Value)} {st : List Value} {h : Hp} {o A B : Option α}
theorem X_eq {o' : Option α} (e : o = o') (kk : Xo g x0 nL k n pc lv st h o') : Xo g x0 nL k n pc lv st h o := by rw [e]; exact kk
theorem X_pc {pc' : Nat} (e : pc = pc') (kk : Xo g x0 nL k n pc' lv st h o) : Xo g x0 nL k n pc lv st h o := by rw [e]; exact kk
theorem X_none : Xo g x0 nL k n pc lv st h none := fun ho => by cases ho
theorem X_as {β γ : Type} {o : Option β} {f : β → Option γ} {K : γ → Option α} (kk : Xo g x0 nL k n pc lv st h (o.bind fun x => (f x).bind K)) : Xo g x0 nL k n pc lv st h ((o.bind f).bind K) := X_eq (Option.bind_assoc _ _ _) kk
theorem X_ib {β : Type} {c : Prop} [Decidable c] {A B : Option β} {K : β → Option α} (kk : Xo g x0 nL k n pc lv st h (if c then A.bind K else B.bind K)) : Xo g x0 nL k n pc lv st h ((if c then A else B).bind K) := X_eq (by split <;> rfl) kk
theorem X_reg {β : Type} {o : Option β} {K : β → Option α} (P : β → Option α → Prop) (hB : ∀ K' : β → Option α, (∀ v, P v (K' v)) → Xo g x0 nL k n pc lv st h (o.bind K')) (hK : ∀ v, P v (K v)) : Xo g x0 nL k n pc lv st h (o.bind K) := hB K hK
theorem X_wide {k' n' : Nat} (h1 : k ≤ k') (h2 : n ≤ n') (kk : Xo g x0 nL k' n' pc lv st h o) : Xo g x0 nL k n pc lv st h o := fun ho ls H locs hl hR hS => W.widen h1 h2 (kk ho ls H locs hl hR hS)
theorem X_iconst (hg : XG g own cc nL fr lo mc ms) {m : Int} {v : Int32} (hv : Int32.ofInt m = v) (d : decode cc pc = .ok (.iconst m, 1)) (kk : Xo g x0 nL k n (pc + 1) lv (.int v :: st) h o) : Xo g x0 nL k n pc lv st h o := fun ho ls H locs hl hR hS => lv_iconst hg.1 hg.2.1 d hv (kk ho ls H locs hl hR hS)
theorem X_bipush (hg : XG g own cc nL fr lo mc ms) {m : Int} {v : Int32} (hv : (Int8.ofInt m).toInt32 = v) (d : decode cc pc = .ok (.bipush m, 2)) (kk : Xo g x0 nL k n (pc + 2) lv (.int v :: st) h o) : Xo g x0 nL k n pc lv st h o := fun ho ls H locs hl hR hS => lv_bipush hg.1 hg.2.1 d hv (kk ho ls H locs hl hR hS)
theorem X_sipush (hg : XG g own cc nL fr lo mc ms) {m : Int} {v : Int32} (hv : (Int16.ofInt m).toInt32 = v) (d : decode cc pc = .ok (.sipush m, 3)) (kk : Xo g x0 nL k n (pc + 3) lv (.int v :: st) h o) : Xo g x0 nL k n pc lv st h o := fun ho ls H locs hl hR hS => lv_sipush hg.1 hg.2.1 d hv (kk ho ls H locs hl hR hS)
theorem X_ldc (hg : XG g own cc nL fr lo mc ms) {idx : Nat} {v : Int32} (hm : Cond.constant own idx v ∈ lw_tbl) (d : decode cc pc = .ok (.ldc idx, 2)) (kk : Xo g x0 nL k n (pc + 2) lv (.int v :: st) h o) : Xo g x0 nL k n pc lv st h o := fun ho ls H locs hl hR hS => lv_ldc hg.1 hg.2.1 hg.2.2.2.1 (hg.w hm rfl) d (kk ho ls H locs hl hR hS)
theorem X_ldc2 (hg : XG g own cc nL fr lo mc ms) {idx : Nat} {v : Int64} (hm : Cond.constantLong own idx v ∈ lw_tbl) (d : decode cc pc = .ok (.ldc2_w idx, 3)) (kk : Xo g x0 nL k n (pc + 3) lv (.long v :: st) h o) : Xo g x0 nL k n pc lv st h o := fun ho ls H locs hl hR hS => lv_ldc2 hg.1 hg.2.1 hg.2.2.2.1 (hg.w hm rfl) d (kk ho ls H locs hl hR hS)
theorem X_null (hg : XG g own cc nL fr lo mc ms)  (d : decode cc pc = .ok (.aconst_null, 1)) (kk : Xo g x0 nL k n (pc + 1) lv (.null :: st) h o) : Xo g x0 nL k n pc lv st h o := fun ho ls H locs hl hR hS => lv_null hg.1 hg.2.1 d (kk ho ls H locs hl hR hS)
theorem X_iload_n (hg : XG g own cc nL fr lo mc ms) (j : Nat) {q : Fin 4} {x : Int32} (hj : lv[j]? = some ((q : Nat), .int x)) (d : decode cc pc = .ok (.iload_n q, 1)) (kk : Xo g x0 nL k n (pc + 1) lv (.int x :: st) h o) : Xo g x0 nL k n pc lv st h o := fun ho ls H locs hl hR hS => lv_iload_n hg.1 hg.2.1 d rfl (lv_at hl j hj) (kk ho ls H locs hl hR hS)
theorem X_iload (hg : XG g own cc nL fr lo mc ms) (j : Nat) {i : Nat} {x : Int32} (hj : lv[j]? = some (i, .int x)) (d : decode cc pc = .ok (.iload i, 2)) (kk : Xo g x0 nL k n (pc + 2) lv (.int x :: st) h o) : Xo g x0 nL k n pc lv st h o := fun ho ls H locs hl hR hS => lv_iload hg.1 hg.2.1 d (lv_at hl j hj) (kk ho ls H locs hl hR hS)
theorem X_lload_n (hg : XG g own cc nL fr lo mc ms) (j : Nat) {q : Fin 4} {x : Int64} (hj : lv[j]? = some ((q : Nat), .long x)) (d : decode cc pc = .ok (.lload_n q, 1)) (kk : Xo g x0 nL k n (pc + 1) lv (.long x :: st) h o) : Xo g x0 nL k n pc lv st h o := fun ho ls H locs hl hR hS => lv_lload_n hg.1 hg.2.1 d rfl (lv_at hl j hj) (kk ho ls H locs hl hR hS)
theorem X_lload (hg : XG g own cc nL fr lo mc ms) (j : Nat) {i : Nat} {x : Int64} (hj : lv[j]? = some (i, .long x)) (d : decode cc pc = .ok (.lload i, 2)) (kk : Xo g x0 nL k n (pc + 2) lv (.long x :: st) h o) : Xo g x0 nL k n pc lv st h o := fun ho ls H locs hl hR hS => lv_lload hg.1 hg.2.1 d (lv_at hl j hj) (kk ho ls H locs hl hR hS)
theorem X_aload_n (hg : XG g own cc nL fr lo mc ms) (j : Nat) {q : Fin 4} {x : Nat} (hj : lv[j]? = some ((q : Nat), .ref x)) (d : decode cc pc = .ok (.aload_n q, 1)) (kk : Xo g x0 nL k n (pc + 1) lv (.ref x :: st) h o) : Xo g x0 nL k n pc lv st h o := fun ho ls H locs hl hR hS => lv_aload_n hg.1 hg.2.1 d rfl (lv_at hl j hj) (kk ho ls H locs hl hR hS)
theorem X_aload (hg : XG g own cc nL fr lo mc ms) (j : Nat) {i : Nat} {x : Nat} (hj : lv[j]? = some (i, .ref x)) (d : decode cc pc = .ok (.aload i, 2)) (kk : Xo g x0 nL k n (pc + 2) lv (.ref x :: st) h o) : Xo g x0 nL k n pc lv st h o := fun ho ls H locs hl hR hS => lv_aload hg.1 hg.2.1 d (lv_at hl j hj) (kk ho ls H locs hl hR hS)
theorem X_aloadQ_n (hg : XG g own cc nL fr lo mc ms) (j : Nat) {q : Fin 4} {b : Nat} {v : Option Nat} (hj : lv[j]? = some ((q : Nat), rl b v)) (d : decode cc pc = .ok (.aload_n q, 1)) (kk : Xo g x0 nL k n (pc + 1) lv (rl b v :: st) h o) : Xo g x0 nL k n pc lv st h o := fun ho ls H locs hl hR hS => by
  have K := kk ho ls H locs hl hR hS
  cases v with
  | none => exact lv_aload_nN hg.1 hg.2.1 d rfl (lv_at hl j hj) K
  | some a => exact lv_aload_n hg.1 hg.2.1 d rfl (lv_at hl j hj) K
theorem X_aloadQ (hg : XG g own cc nL fr lo mc ms) (j : Nat) {i b : Nat} {v : Option Nat} (hj : lv[j]? = some (i, rl b v)) (d : decode cc pc = .ok (.aload i, 2)) (kk : Xo g x0 nL k n (pc + 2) lv (rl b v :: st) h o) : Xo g x0 nL k n pc lv st h o := fun ho ls H locs hl hR hS => by
  have K := kk ho ls H locs hl hR hS
  cases v with
  | none => exact lv_aloadN hg.1 hg.2.1 d (lv_at hl j hj) K
  | some a => exact lv_aload hg.1 hg.2.1 d (lv_at hl j hj) K
theorem X_istore_n (hg : XG g own cc nL fr lo mc ms) {q : Fin 4} {i : Nat} {x : Int32} (hi : (q : Nat) = i) (hn : i < nL) (hl' : (i, Value.int x) :: lv.filter (fun q => !(q.1 == i) && !(q.1 + 1 == i && q.2.category == 2)) = lv') (d : decode cc pc = .ok (.istore_n q, 1)) (kk : Xo g x0 nL k n (pc + 1) lv' st h o) : Xo g x0 nL k n pc lv (.int x :: st) h o := fun ho ls H locs hl hR hS => lv_istore_n hg.1 hg.2.1 d hi hl hn hl' (fun ls' hl2 => kk ho ls' H locs hl2 hR hS)
theorem X_istore (hg : XG g own cc nL fr lo mc ms) {i : Nat} {x : Int32} (hn : i < nL) (hl' : (i, Value.int x) :: lv.filter (fun q => !(q.1 == i) && !(q.1 + 1 == i && q.2.category == 2)) = lv') (d : decode cc pc = .ok (.istore i, 2)) (kk : Xo g x0 nL k n (pc + 2) lv' st h o) : Xo g x0 nL k n pc lv (.int x :: st) h o := fun ho ls H locs hl hR hS => lv_istore hg.1 hg.2.1 d hl hn hl' (fun ls' hl2 => kk ho ls' H locs hl2 hR hS)
theorem X_lstore_n (hg : XG g own cc nL fr lo mc ms) {q : Fin 4} {i : Nat} {x : Int64} (hi : (q : Nat) = i) (hn : i + 1 < nL) (hl' : (i, Value.long x) :: lv.filter (fun q => !(q.1 == i) && (!(q.1 == i + 1) && !(q.1 + 1 == i && q.2.category == 2))) = lv') (d : decode cc pc = .ok (.lstore_n q, 1)) (kk : Xo g x0 nL k n (pc + 1) lv' st h o) : Xo g x0 nL k n pc lv (.long x :: st) h o := fun ho ls H locs hl hR hS => lv_lstore_n hg.1 hg.2.1 d hi hl hn hl' (fun ls' hl2 => kk ho ls' H locs hl2 hR hS)
theorem X_lstore (hg : XG g own cc nL fr lo mc ms) {i : Nat} {x : Int64} (hn : i + 1 < nL) (hl' : (i, Value.long x) :: lv.filter (fun q => !(q.1 == i) && (!(q.1 == i + 1) && !(q.1 + 1 == i && q.2.category == 2))) = lv') (d : decode cc pc = .ok (.lstore i, 2)) (kk : Xo g x0 nL k n (pc + 2) lv' st h o) : Xo g x0 nL k n pc lv (.long x :: st) h o := fun ho ls H locs hl hR hS => lv_lstore hg.1 hg.2.1 d hl hn hl' (fun ls' hl2 => kk ho ls' H locs hl2 hR hS)
theorem X_astore_n (hg : XG g own cc nL fr lo mc ms) {q : Fin 4} {i : Nat} {x : Nat} (hi : (q : Nat) = i) (hn : i < nL) (hl' : (i, Value.ref x) :: lv.filter (fun q => !(q.1 == i) && !(q.1 + 1 == i && q.2.category == 2)) = lv') (d : decode cc pc = .ok (.astore_n q, 1)) (kk : Xo g x0 nL k n (pc + 1) lv' st h o) : Xo g x0 nL k n pc lv (.ref x :: st) h o := fun ho ls H locs hl hR hS => lv_astore_n hg.1 hg.2.1 d hi hl hn hl' (fun ls' hl2 => kk ho ls' H locs hl2 hR hS)
theorem X_astore (hg : XG g own cc nL fr lo mc ms) {i : Nat} {x : Nat} (hn : i < nL) (hl' : (i, Value.ref x) :: lv.filter (fun q => !(q.1 == i) && !(q.1 + 1 == i && q.2.category == 2)) = lv') (d : decode cc pc = .ok (.astore i, 2)) (kk : Xo g x0 nL k n (pc + 2) lv' st h o) : Xo g x0 nL k n pc lv (.ref x :: st) h o := fun ho ls H locs hl hR hS => lv_astore hg.1 hg.2.1 d hl hn hl' (fun ls' hl2 => kk ho ls' H locs hl2 hR hS)
theorem X_astoreQ_n (hg : XG g own cc nL fr lo mc ms) {q : Fin 4} {i b : Nat} {v : Option Nat} (hi : (q : Nat) = i) (hn : i < nL) (hl' : (i, rl b v) :: lv.filter (fun q => !(q.1 == i) && !(q.1 + 1 == i && q.2.category == 2)) = lv') (d : decode cc pc = .ok (.astore_n q, 1)) (kk : Xo g x0 nL k n (pc + 1) lv' st h o) : Xo g x0 nL k n pc lv (rl b v :: st) h o := fun ho ls H locs hl hR hS => by
  cases v with
  | none => exact lv_astore_nN hg.1 hg.2.1 d hi hl hn hl' (fun ls' hl2 => kk ho ls' H locs hl2 hR hS)
  | some a => exact lv_astore_n hg.1 hg.2.1 d hi hl hn hl' (fun ls' hl2 => kk ho ls' H locs hl2 hR hS)
theorem X_astoreQ (hg : XG g own cc nL fr lo mc ms) {i b : Nat} {v : Option Nat} (hn : i < nL) (hl' : (i, rl b v) :: lv.filter (fun q => !(q.1 == i) && !(q.1 + 1 == i && q.2.category == 2)) = lv') (d : decode cc pc = .ok (.astore i, 2)) (kk : Xo g x0 nL k n (pc + 2) lv' st h o) : Xo g x0 nL k n pc lv (rl b v :: st) h o := fun ho ls H locs hl hR hS => by
  cases v with
  | none => exact lv_astoreN hg.1 hg.2.1 d hl hn hl' (fun ls' hl2 => kk ho ls' H locs hl2 hR hS)
  | some a => exact lv_astore hg.1 hg.2.1 d hl hn hl' (fun ls' hl2 => kk ho ls' H locs hl2 hR hS)
theorem X_iinc (hg : XG g own cc nL fr lo mc ms) (j : Nat) {i : Nat} {m : Int} {x v : Int32} (hj : lv[j]? = some (i, .int x)) (hv : x + Int32.ofInt m = v) (hn : i < nL) (hl' : (i, Value.int v) :: lv.filter (fun q => !(q.1 == i) && !(q.1 + 1 == i && q.2.category == 2)) = lv') (d : decode cc pc = .ok (.iinc i m, 3)) (kk : Xo g x0 nL k n (pc + 3) lv' st h o) : Xo g x0 nL k n pc lv st h o := fun ho ls H locs hl hR hS => lv_iinc hg.1 hg.2.1 d hl hj hv hn hl' (fun ls' hl2 => kk ho ls' H locs hl2 hR hS)
theorem X_iadd (hg : XG g own cc nL fr lo mc ms) {x y : Int32} (d : decode cc pc = .ok (.iadd, 1)) (kk : Xo g x0 nL k n (pc + 1) lv (.int (x + y) :: st) h o) : Xo g x0 nL k n pc lv (.int y :: .int x :: st) h o := fun ho ls H locs hl hR hS => lv_iadd hg.1 hg.2.1 d (kk ho ls H locs hl hR hS)
theorem X_isub (hg : XG g own cc nL fr lo mc ms) {x y : Int32} (d : decode cc pc = .ok (.isub, 1)) (kk : Xo g x0 nL k n (pc + 1) lv (.int (x - y) :: st) h o) : Xo g x0 nL k n pc lv (.int y :: .int x :: st) h o := fun ho ls H locs hl hR hS => lv_isub hg.1 hg.2.1 d (kk ho ls H locs hl hR hS)
theorem X_imul (hg : XG g own cc nL fr lo mc ms) {x y : Int32} (d : decode cc pc = .ok (.imul, 1)) (kk : Xo g x0 nL k n (pc + 1) lv (.int (x * y) :: st) h o) : Xo g x0 nL k n pc lv (.int y :: .int x :: st) h o := fun ho ls H locs hl hR hS => lv_imul hg.1 hg.2.1 d (kk ho ls H locs hl hR hS)
theorem X_iand (hg : XG g own cc nL fr lo mc ms) {x y : Int32} (d : decode cc pc = .ok (.iand, 1)) (kk : Xo g x0 nL k n (pc + 1) lv (.int (x &&& y) :: st) h o) : Xo g x0 nL k n pc lv (.int y :: .int x :: st) h o := fun ho ls H locs hl hR hS => lv_iand hg.1 hg.2.1 d (kk ho ls H locs hl hR hS)
theorem X_ladd (hg : XG g own cc nL fr lo mc ms) {x y : Int64} (d : decode cc pc = .ok (.ladd, 1)) (kk : Xo g x0 nL k n (pc + 1) lv (.long (x + y) :: st) h o) : Xo g x0 nL k n pc lv (.long y :: .long x :: st) h o := fun ho ls H locs hl hR hS => lv_ladd hg.1 hg.2.1 d (kk ho ls H locs hl hR hS)
theorem X_lmul (hg : XG g own cc nL fr lo mc ms) {x y : Int64} (d : decode cc pc = .ok (.lmul, 1)) (kk : Xo g x0 nL k n (pc + 1) lv (.long (x * y) :: st) h o) : Xo g x0 nL k n pc lv (.long y :: .long x :: st) h o := fun ho ls H locs hl hR hS => lv_lmul hg.1 hg.2.1 d (kk ho ls H locs hl hR hS)
theorem X_idiv (hg : XG g own cc nL fr lo mc ms) {x y : Int32} (hne : ¬ y = 0) (d : decode cc pc = .ok (.idiv, 1)) (kk : Xo g x0 nL k n (pc + 1) lv (.int (x / y) :: st) h o) : Xo g x0 nL k n pc lv (.int y :: .int x :: st) h o := fun ho ls H locs hl hR hS => lv_idiv hg.1 hg.2.1 d hne (kk ho ls H locs hl hR hS)
theorem X_irem (hg : XG g own cc nL fr lo mc ms) {x y : Int32} (hne : ¬ y = 0) (d : decode cc pc = .ok (.irem, 1)) (kk : Xo g x0 nL k n (pc + 1) lv (.int (x - x / y * y) :: st) h o) : Xo g x0 nL k n pc lv (.int y :: .int x :: st) h o := fun ho ls H locs hl hR hS => lv_irem hg.1 hg.2.1 d hne (kk ho ls H locs hl hR hS)
theorem X_i2l (hg : XG g own cc nL fr lo mc ms) {x : Int32} (d : decode cc pc = .ok (.i2l, 1)) (kk : Xo g x0 nL k n (pc + 1) lv (.long x.toInt64 :: st) h o) : Xo g x0 nL k n pc lv (.int x :: st) h o := fun ho ls H locs hl hR hS => lv_i2l hg.1 hg.2.1 d rfl (kk ho ls H locs hl hR hS)
theorem X_dup (hg : XG g own cc nL fr lo mc ms) {v : Value} (hv : v.category = 1) (d : decode cc pc = .ok (.dup, 1)) (kk : Xo g x0 nL k n (pc + 1) lv (v :: v :: st) h o) : Xo g x0 nL k n pc lv (v :: st) h o := fun ho ls H locs hl hR hS => lv_dup hg.1 hg.2.1 d hv (kk ho ls H locs hl hR hS)
theorem X_pop (hg : XG g own cc nL fr lo mc ms) {v : Value} (hv : v.category = 1) (d : decode cc pc = .ok (.pop, 1)) (kk : Xo g x0 nL k n (pc + 1) lv st h o) : Xo g x0 nL k n pc lv (v :: st) h o := fun ho ls H locs hl hR hS => lv_pop hg.1 hg.2.1 d hv (kk ho ls H locs hl hR hS)
theorem X_dup2 (hg : XG g own cc nL fr lo mc ms) {v w : Value} (hv : v.category = 1) (hw : w.category = 1) (d : decode cc pc = .ok (.dup2, 1)) (kk : Xo g x0 nL k n (pc + 1) lv (v :: w :: v :: w :: st) h o) : Xo g x0 nL k n pc lv (v :: w :: st) h o := fun ho ls H locs hl hR hS => lv_dup2_11 hg.1 hg.2.1 d hv hw (kk ho ls H locs hl hR hS)
theorem X_if_eq (hg : XG g own cc nL fr lo mc ms) {x : Int32} {off : Int} {tgt : Nat} (d : decode cc pc = .ok (.ifCond .eq off, 3)) (ht : (pc : Int) + off = (tgt : Int)) (kt : x = 0 → Xo g x0 nL k n tgt lv st h A) (kf : ¬ (x = 0) → Xo g x0 nL k n (pc + 3) lv st h B) : Xo g x0 nL k n pc lv (.int x :: st) h (if x = 0 then A else B) := fun ho ls H locs hl hR hS => lv_if_eq hg.1 hg.2.1 d ht (fun c => kt c (by rw [if_pos c] at ho; exact ho) ls H locs hl hR hS) (fun c => kf c (by rw [if_neg c] at ho; exact ho) ls H locs hl hR hS)
theorem X_if_lt (hg : XG g own cc nL fr lo mc ms) {x : Int32} {off : Int} {tgt : Nat} (d : decode cc pc = .ok (.ifCond .lt off, 3)) (ht : (pc : Int) + off = (tgt : Int)) (kt : x < 0 → Xo g x0 nL k n tgt lv st h A) (kf : ¬ (x < 0) → Xo g x0 nL k n (pc + 3) lv st h B) : Xo g x0 nL k n pc lv (.int x :: st) h (if x < 0 then A else B) := fun ho ls H locs hl hR hS => lv_if_lt hg.1 hg.2.1 d ht (fun c => kt c (by rw [if_pos c] at ho; exact ho) ls H locs hl hR hS) (fun c => kf c (by rw [if_neg c] at ho; exact ho) ls H locs hl hR hS)
theorem X_if_ge (hg : XG g own cc nL fr lo mc ms) {x : Int32} {off : Int} {tgt : Nat} (d : decode cc pc = .ok (.ifCond .ge off, 3)) (ht : (pc : Int) + off = (tgt : Int)) (kt : 0 ≤ x → Xo g x0 nL k n tgt lv st h A) (kf : ¬ (0 ≤ x) → Xo g x0 nL k n (pc + 3) lv st h B) : Xo g x0 nL k n pc lv (.int x :: st) h (if 0 ≤ x then A else B) := fun ho ls H locs hl hR hS => lv_if_ge hg.1 hg.2.1 d ht (fun c => kt c (by rw [if_pos c] at ho; exact ho) ls H locs hl hR hS) (fun c => kf c (by rw [if_neg c] at ho; exact ho) ls H locs hl hR hS)
theorem X_if_gt (hg : XG g own cc nL fr lo mc ms) {x : Int32} {off : Int} {tgt : Nat} (d : decode cc pc = .ok (.ifCond .gt off, 3)) (ht : (pc : Int) + off = (tgt : Int)) (kt : 0 < x → Xo g x0 nL k n tgt lv st h A) (kf : ¬ (0 < x) → Xo g x0 nL k n (pc + 3) lv st h B) : Xo g x0 nL k n pc lv (.int x :: st) h (if 0 < x then A else B) := fun ho ls H locs hl hR hS => lv_if_gt hg.1 hg.2.1 d ht (fun c => kt c (by rw [if_pos c] at ho; exact ho) ls H locs hl hR hS) (fun c => kf c (by rw [if_neg c] at ho; exact ho) ls H locs hl hR hS)
theorem X_if_le (hg : XG g own cc nL fr lo mc ms) {x : Int32} {off : Int} {tgt : Nat} (d : decode cc pc = .ok (.ifCond .le off, 3)) (ht : (pc : Int) + off = (tgt : Int)) (kt : x ≤ 0 → Xo g x0 nL k n tgt lv st h A) (kf : ¬ (x ≤ 0) → Xo g x0 nL k n (pc + 3) lv st h B) : Xo g x0 nL k n pc lv (.int x :: st) h (if x ≤ 0 then A else B) := fun ho ls H locs hl hR hS => lv_if_le hg.1 hg.2.1 d ht (fun c => kt c (by rw [if_pos c] at ho; exact ho) ls H locs hl hR hS) (fun c => kf c (by rw [if_neg c] at ho; exact ho) ls H locs hl hR hS)
theorem X_icmp_eq (hg : XG g own cc nL fr lo mc ms) {x y : Int32} {off : Int} {tgt : Nat} (d : decode cc pc = .ok (.if_icmp .eq off, 3)) (ht : (pc : Int) + off = (tgt : Int)) (kt : x = y → Xo g x0 nL k n tgt lv st h A) (kf : ¬ (x = y) → Xo g x0 nL k n (pc + 3) lv st h B) : Xo g x0 nL k n pc lv (.int y :: .int x :: st) h (if x = y then A else B) := fun ho ls H locs hl hR hS => lv_icmp_eq hg.1 hg.2.1 d ht (fun c => kt c (by rw [if_pos c] at ho; exact ho) ls H locs hl hR hS) (fun c => kf c (by rw [if_neg c] at ho; exact ho) ls H locs hl hR hS)
theorem X_icmp_lt (hg : XG g own cc nL fr lo mc ms) {x y : Int32} {off : Int} {tgt : Nat} (d : decode cc pc = .ok (.if_icmp .lt off, 3)) (ht : (pc : Int) + off = (tgt : Int)) (kt : x < y → Xo g x0 nL k n tgt lv st h A) (kf : ¬ (x < y) → Xo g x0 nL k n (pc + 3) lv st h B) : Xo g x0 nL k n pc lv (.int y :: .int x :: st) h (if x < y then A else B) := fun ho ls H locs hl hR hS => lv_icmp_lt hg.1 hg.2.1 d ht (fun c => kt c (by rw [if_pos c] at ho; exact ho) ls H locs hl hR hS) (fun c => kf c (by rw [if_neg c] at ho; exact ho) ls H locs hl hR hS)
theorem X_icmp_ge (hg : XG g own cc nL fr lo mc ms) {x y : Int32} {off : Int} {tgt : Nat} (d : decode cc pc = .ok (.if_icmp .ge off, 3)) (ht : (pc : Int) + off = (tgt : Int)) (kt : y ≤ x → Xo g x0 nL k n tgt lv st h A) (kf : ¬ (y ≤ x) → Xo g x0 nL k n (pc + 3) lv st h B) : Xo g x0 nL k n pc lv (.int y :: .int x :: st) h (if y ≤ x then A else B) := fun ho ls H locs hl hR hS => lv_icmp_ge hg.1 hg.2.1 d ht (fun c => kt c (by rw [if_pos c] at ho; exact ho) ls H locs hl hR hS) (fun c => kf c (by rw [if_neg c] at ho; exact ho) ls H locs hl hR hS)
theorem X_icmp_gt (hg : XG g own cc nL fr lo mc ms) {x y : Int32} {off : Int} {tgt : Nat} (d : decode cc pc = .ok (.if_icmp .gt off, 3)) (ht : (pc : Int) + off = (tgt : Int)) (kt : y < x → Xo g x0 nL k n tgt lv st h A) (kf : ¬ (y < x) → Xo g x0 nL k n (pc + 3) lv st h B) : Xo g x0 nL k n pc lv (.int y :: .int x :: st) h (if y < x then A else B) := fun ho ls H locs hl hR hS => lv_icmp_gt hg.1 hg.2.1 d ht (fun c => kt c (by rw [if_pos c] at ho; exact ho) ls H locs hl hR hS) (fun c => kf c (by rw [if_neg c] at ho; exact ho) ls H locs hl hR hS)
theorem X_icmp_le (hg : XG g own cc nL fr lo mc ms) {x y : Int32} {off : Int} {tgt : Nat} (d : decode cc pc = .ok (.if_icmp .le off, 3)) (ht : (pc : Int) + off = (tgt : Int)) (kt : x ≤ y → Xo g x0 nL k n tgt lv st h A) (kf : ¬ (x ≤ y) → Xo g x0 nL k n (pc + 3) lv st h B) : Xo g x0 nL k n pc lv (.int y :: .int x :: st) h (if x ≤ y then A else B) := fun ho ls H locs hl hR hS => lv_icmp_le hg.1 hg.2.1 d ht (fun c => kt c (by rw [if_pos c] at ho; exact ho) ls H locs hl hR hS) (fun c => kf c (by rw [if_neg c] at ho; exact ho) ls H locs hl hR hS)
theorem X_if_ne (hg : XG g own cc nL fr lo mc ms) {x : Int32} {off : Int} {tgt : Nat} (d : decode cc pc = .ok (.ifCond .ne off, 3)) (ht : (pc : Int) + off = (tgt : Int)) (kt : x = 0 → Xo g x0 nL k n (pc + 3) lv st h A) (kf : ¬ x = 0 → Xo g x0 nL k n tgt lv st h B) : Xo g x0 nL k n pc lv (.int x :: st) h (if x = 0 then A else B) := fun ho ls H locs hl hR hS => lv_if_ne hg.1 hg.2.1 d ht (fun c => kf c (by rw [if_neg c] at ho; exact ho) ls H locs hl hR hS) (fun c => kt c (by rw [if_pos c] at ho; exact ho) ls H locs hl hR hS)
theorem X_icmp_ne (hg : XG g own cc nL fr lo mc ms) {x y : Int32} {off : Int} {tgt : Nat} (d : decode cc pc = .ok (.if_icmp .ne off, 3)) (ht : (pc : Int) + off = (tgt : Int)) (kt : x = y → Xo g x0 nL k n (pc + 3) lv st h A) (kf : ¬ x = y → Xo g x0 nL k n tgt lv st h B) : Xo g x0 nL k n pc lv (.int y :: .int x :: st) h (if x = y then A else B) := fun ho ls H locs hl hR hS => lv_icmp_ne hg.1 hg.2.1 d ht (fun c => kf c (by rw [if_neg c] at ho; exact ho) ls H locs hl hR hS) (fun c => kt c (by rw [if_pos c] at ho; exact ho) ls H locs hl hR hS)
theorem X_ifnull (hg : XG g own cc nL fr lo mc ms) {b : Nat} {v : Option Nat} {off : Int} {tgt : Nat} {F : Nat → Option α} (d : decode cc pc = .ok (.ifnull off, 3)) (ht : (pc : Int) + off = (tgt : Int)) (kt : v = none → Xo g x0 nL k n tgt lv st h A) (kf : ∀ a, v = some a → Xo g x0 nL k n (pc + 3) lv st h (F a)) : Xo g x0 nL k n pc lv (rl b v :: st) h (v.elim A F) := fun ho ls H locs hl hR hS => by
  cases v with
  | none => exact lv_ifnullN hg.1 hg.2.1 d ht (kt rfl ho ls H locs hl hR hS)
  | some a => exact lv_ifnull hg.1 hg.2.1 d (kf a rfl ho ls H locs hl hR hS)
theorem X_ifnonnull (hg : XG g own cc nL fr lo mc ms) {b : Nat} {v : Option Nat} {off : Int} {tgt : Nat} {F : Nat → Option α} (d : decode cc pc = .ok (.ifnonnull off, 3)) (ht : (pc : Int) + off = (tgt : Int)) (kt : v = none → Xo g x0 nL k n (pc + 3) lv st h A) (kf : ∀ a, v = some a → Xo g x0 nL k n tgt lv st h (F a)) : Xo g x0 nL k n pc lv (rl b v :: st) h (v.elim A F) := fun ho ls H locs hl hR hS => by
  cases v with
  | none => exact lv_ifnonnullN hg.1 hg.2.1 d (kt rfl ho ls H locs hl hR hS)
  | some a => exact lv_ifnonnull hg.1 hg.2.1 d ht (kf a rfl ho ls H locs hl hR hS)
theorem X_eb {β : Type} {v : Option Nat} {A : Option β} {F : Nat → Option β} {K : β → Option α} (kk : Xo g x0 nL k n pc lv st h (v.elim (A.bind K) (fun a => (F a).bind K))) : Xo g x0 nL k n pc lv st h ((v.elim A F).bind K) := X_eq (by cases v <;> rfl) kk
theorem X_goto (hg : XG g own cc nL fr lo mc ms) {off : Int} {tgt : Nat} (d : decode cc pc = .ok (.goto off, 3)) (ht : (pc : Int) + off = (tgt : Int)) (kk : Xo g x0 nL k n tgt lv st h o) : Xo g x0 nL k n pc lv st h o := fun ho ls H locs hl hR hS => lv_goto hg.1 hg.2.1 d ht (kk ho ls H locs hl hR hS)
theorem X_tsw (hg : XG g own cc nL fr lo mc ms) {x v : Int32} {df lo' hi' : Int} {offs : Array Int} {len : Nat} {off : Int} {tgt : Nat} (d : decode cc pc = .ok (.tableswitch df lo' hi' offs, len)) (h1 : ¬ v.toInt < lo') (h2 : ¬ hi' < v.toInt) (h3 : offs[(v.toInt - lo').toNat]? = some off) (ht : (pc : Int) + off = (tgt : Int)) (kt : x = v → Xo g x0 nL k n tgt lv st h A) (kf : ¬ x = v → Xo g x0 nL k n pc lv (.int x :: st) h B) : Xo g x0 nL k n pc lv (.int x :: st) h (if x = v then A else B) := fun ho ls H locs hl hR hS => by
  by_cases c : x = v
  · rw [if_pos c] at ho
    have K := kt c ho ls H locs hl hR hS
    subst c
    exact lv_tableIn hg.1 hg.2.1 d h1 h2 h3 ht K
  · rw [if_neg c] at ho
    exact kf c ho ls H locs hl hR hS
theorem X_tsd (hg : XG g own cc nL fr lo mc ms) {x : Int32} {df lo' hi' : Int} {offs : Array Int} {len : Nat} {tgt : Nat} (d : decode cc pc = .ok (.tableswitch df lo' hi' offs, len)) (hx : x.toInt < lo' ∨ hi' < x.toInt) (ht : (pc : Int) + df = (tgt : Int)) (kk : Xo g x0 nL k n tgt lv st h o) : Xo g x0 nL k n pc lv (.int x :: st) h o := fun ho ls H locs hl hR hS => lv_tableOut hg.1 hg.2.1 d hx ht (kk ho ls H locs hl hR hS)
theorem X_lcmpne (hg : XG g own cc nL fr lo mc ms) {x y : Int64} {off : Int} {tgt : Nat} (d1 : decode cc pc = .ok (.lcmp, 1)) (d : decode cc (pc + 1) = .ok (.ifCond .eq off, 3)) (ht : ((pc + 1 : Nat) : Int) + off = (tgt : Int)) (kt : x = y → Xo g x0 nL k n tgt lv st h A) (kf : ¬ x = y → Xo g x0 nL k n (pc + 1 + 3) lv st h B) : Xo g x0 nL k n pc lv (.long y :: .long x :: st) h (if x = y then A else B) := fun ho ls H locs hl hR hS => by
  have e0 : lg_cmp x y = 0 ↔ x = y := by
    unfold lg_cmp
    by_cases h1 : y < x
    · simp only [h1, if_true]
      refine ⟨fun z => absurd z (by decide), fun z => ?_⟩
      subst z
      exact absurd h1 (by simp only [Int64.lt_iff_toInt_lt]; omega)
    · by_cases h2 : x = y
      · subst h2; simp
      · simp [h1, h2]
  refine W.lcmp hg.1 hg.2.1 d1 ?_
  refine lv_if_eq hg.1 hg.2.1 d ht (fun c => ?_) (fun c => ?_)
  · rw [e0] at c
    rw [if_pos c] at ho
    exact kt c ho ls H locs hl hR hS
  · rw [e0] at c
    rw [if_neg c] at ho
    exact kf c ho ls H locs hl hR hS
end
end
section
/-! FIELDS AND ARRAYS -/
/-- a class: its number, its name, its fields by their places -/
def CF (c : Nat) (C : String) (T : u_T) (N : Nat) : Prop := c < 11 ∧ vwCl[c]? = some (C, T, N) ∧ (∀ w ∈ u_ws C T N, w ∈ lw_tbl ∧ okW w = true) ∧ (∀ j, j < N → parseFieldDescriptor (T j).2.2.1 = some (tyC c j)) ∧ (∀ a, a < N → ∀ b, b < N → a ≠ b → (T a).2.1 ≠ (T b).2.1)
def okT : FieldType → Bool
  | .int => true
  | .boolean => true
  | .long => true
  | .object _ => true
  | .array _ => true
  | _ => false
section
variable {en : EN} {h h' : Hp} {H H' : Heap} {s : State} {c a j : Nat} {C : String} {T : u_T} {N : Nat}
theorem Rep.lt (hR : Rep en h H) (ha : a < hN h) : nB en + a < H.size := by rw [hR.1]; omega
theorem obj_of (hR : Rep en h H) (hO : a < hN h ∧ (hK h a).1 = c) (hc : CF c C T N) : t_OB (nB en + a) (nC en c) N (nI_ en c) H (fun j => fv (nB en) h a (tyC c j) j) := by
  obtain ⟨r, h1, h2⟩ := (cellAt.obj hO.2 hc.1).mp (hR.2 a hO.1)
  cases hc.2.1.symm.trans h1
  exact h2
theorem CF.ts (hc : CF c C T N) {A : Array Value} (hE : ∀ w ∈ lw_tbl, okW w = true → w.before #[] s = true) : ∀ w ∈ u_ws C T N, w.before A s = true := fun w hw => okW_args (hc.2.2.1 w hw).2 rfl (hE w (hc.2.2.1 w hw).1 (hc.2.2.1 w hw).2)
/-- a field is written: the abstract heap h' is h with that field at its new value -/
theorem rep_field {cell : Cell} {v : Value} (hP0 : Rep en h H) (hO : a < hN h ∧ (hK h a).1 = c) (hc : CF c C T N) (hap : ∀ x y, x < N → y < N → x ≠ y → nI_ en c x ≠ nI_ en c y) (hj : j < N) (q2 : cell.cls = nC en c) (q3 : cell.vm = .none) (q4 : ∀ k, k < N → cell.slots[nI_ en c k]? = some (fv (nB en) h a (tyC c k) k))
    (e1 : H'[nB en + a]? = some (cell.setSlot (nI_ en c j) v)) (e2 : H'.size = H.size) (e3 : ∀ q, q ≠ nB en + a → H'[q]? = H[q]?)
    (hn : hN h' = hN h) (hk : hK h' = hK h) (hi : ∀ q, q ≠ a → ∀ j, hI h' q j = hI h q j) (hr : ∀ q, q ≠ a → ∀ j, hR h' q j = hR h q j) (hjj : ∀ q, q ≠ a → ∀ j, hJ h' q j = hJ h q j)
    (hf : ∀ k, k < N → fv (nB en) h' a (tyC c k) k = if k = j then v else fv (nB en) h a (tyC c k) k) : Rep en h' H' := by
  refine hP0.put hn e2 e3 (fun q _ => by rw [hk]) hi hr hjj ?_
  rw [cellAt.obj (c := c) (by rw [hk]; exact hO.2) hc.1]
  refine ⟨_, hc.2.1, t_OB.to (V := updV (fun k => fv (nB en) h a (tyC c k) k) j v) ⟨_, e1, q2, q3, t_set q4 hap hj v⟩ (fun k hk' => ?_)⟩
  rw [hf k hk']
  rfl
theorem fv_setI {b : Nat} {ty : FieldType} (hty : ty = .int ∨ ty = .boolean) {v : Int32} (k : Nat) (tyk : FieldType) (hok : k = j → tyk = ty) : fv b (setI h a j v) a tyk k = if k = j then .int v else fv b h a tyk k := by
  by_cases e : k = j
  · rw [if_pos e, hok e]
    rcases hty with rfl | rfl <;> simp [fv, hI, setI, u2, e]
  · rw [if_neg e]
    unfold fv
    have e1 : hI (setI h a j v) a k = hI h a k := by show u2 _ _ _ _ _ _ = _; simp [u2, e, hI]
    rw [e1]
    rfl
theorem fv_setJ {b : Nat} {v : Int64} (k : Nat) (tyk : FieldType) (hok : k = j → tyk = .long) : fv b (setJ h a j v) a tyk k = if k = j then .long v else fv b h a tyk k := by
  by_cases e : k = j
  · rw [if_pos e, hok e]
    simp [fv, hJ, setJ, u2, e]
  · rw [if_neg e]
    unfold fv
    have e1 : hJ (setJ h a j v) a k = hJ h a k := by show u2 _ _ _ _ _ _ = _; simp [u2, e, hJ]
    rw [e1]
    rfl
theorem fv_setR {b : Nat} {ty : FieldType} (hty : (∃ n, ty = .object n) ∨ ∃ t, ty = .array t) {v : Nat} (k : Nat) (tyk : FieldType) (hok : k = j → tyk = ty) : fv b (setR h a j (some v)) a tyk k = if k = j then .ref (b + v) else fv b h a tyk k := by
  by_cases e : k = j
  · rw [if_pos e, hok e]
    rcases hty with ⟨n, rfl⟩ | ⟨t, rfl⟩ <;> simp [fv, hR, setR, u2, e, rl]
  · rw [if_neg e]
    unfold fv
    have e1 : hR (setR h a j (some v)) a k = hR h a k := by show u2 _ _ _ _ _ _ = _; simp [u2, e, hR]
    rw [e1]
    rfl
theorem inA_vp {i : Int32} {n : Nat} (hi : inA i n) : vp_in i n := vp_in_iff.mpr hi
end
section
variable {α : Type} {g : XC} {x0 : α} {own : String} {cc : ByteArray} {nL fr lo mc ms k n pc : Nat} {lv lv' : List (Nat × Value)} {st : List Value} {h : Hp} {c a j idx : Nat} {C : String} {T : u_T} {N : Nat}
/-- a field is read -/
theorem X_getV (hg : XG g own cc nL fr lo mc ms) (hc : CF c C T N) (hj : j < N) (hO : a < hN h ∧ (hK h a).1 = c) (hm : Cond.fieldLink own idx (T j).1 (T j).2.1 (T j).2.2.1 ∈ lw_tbl) (d : decode cc pc = .ok (.getfield idx, 3)) {o : Option α}
    (kk : Xo g x0 nL k n (pc + 3) lv (fv (nB g.1) h a (tyC c j) j :: st) h o) : Xo g x0 nL k n pc lv (.ref (nB g.1 + a) :: st) h o := fun ho ls H locs hl hR hS => by
  obtain ⟨cell, q1, q2, q3, q4⟩ := obj_of hR hO hc
  obtain ⟨hSl, hfc, kC, hkC, hkind⟩ := hg.2.2.2.2.1.2.1.1 c _ hc.2.1
  obtain ⟨cf, kf, fi, f, hi, hsl⟩ := hSl j hj
  exact W.getf hg.1 hg.2.1 hg.2.2.2.1 (hg.w hm rfl) hi (u_facts hfc hkC (u_lays (hc.ts (A := #[]) hg.2.2.2.2.1.1) (fun _ h => h) hj) hi).1 q1 (by rw [q3]; exact fun h => by cases h) (by show cell.slots[f.slot]? = some (fv (nB g.1) h a (tyC c j) j); rw [hsl, q4 j hj]) rfl rfl d (kk ho ls H locs hl hR hS)
theorem X_getVN (hg : XG g own cc nL fr lo mc ms) {host : String} (hc : CF c C T N) (hj : j < N) (hO : a < hN h ∧ (hK h a).1 = c) (hm : Cond.fieldLinkNest own idx (T j).1 (T j).2.1 (T j).2.2.1 host ∈ lw_tbl) (d : decode cc pc = .ok (.getfield idx, 3)) {o : Option α}
    (kk : Xo g x0 nL k n (pc + 3) lv (fv (nB g.1) h a (tyC c j) j :: st) h o) : Xo g x0 nL k n pc lv (.ref (nB g.1 + a) :: st) h o := fun ho ls H locs hl hR hS => by
  obtain ⟨cell, q1, q2, q3, q4⟩ := obj_of hR hO hc
  obtain ⟨hSl, hfc, kC, hkC, hkind⟩ := hg.2.2.2.2.1.2.1.1 c _ hc.2.1
  obtain ⟨cf, kf, fi, f, hi, hsl⟩ := hSl j hj
  exact va_Wgetf hg.1 hg.2.1 hg.2.2.2.1 (hg.w hm rfl) hi (u_facts hfc hkC (u_lays (hc.ts (A := #[]) hg.2.2.2.2.1.1) (fun _ h => h) hj) hi).1 q1 (by rw [q3]; exact fun h => by cases h) (by show cell.slots[f.slot]? = some (fv (nB g.1) h a (tyC c j) j); rw [hsl, q4 j hj]) rfl rfl d (kk ho ls H locs hl hR hS)
theorem getI_some {x : Int32} (e : getI h c a j = some x) : (a < hN h ∧ (hK h a).1 = c) ∧ x = hI h a j := by
  unfold getI at e
  split at e
  · next q => exact ⟨q, (Option.some.inj e).symm⟩
  · cases e
theorem getJ_some {x : Int64} (e : getJ h c a j = some x) : (a < hN h ∧ (hK h a).1 = c) ∧ x = hJ h a j := by
  unfold getJ at e
  split at e
  · next q => exact ⟨q, (Option.some.inj e).symm⟩
  · cases e
theorem getR_some {x : Nat} (e : getR h c a j = some x) : (a < hN h ∧ (hK h a).1 = c) ∧ hR h a j = some x := by
  unfold getR at e
  split at e
  · next q => exact ⟨q, e⟩
  · cases e
theorem X_bd {β : Type} {o : Option β} {K : β → Option α} (kk : ∀ x, o = some x → Xo g x0 nL k n pc lv st h (K x)) : Xo g x0 nL k n pc lv st h (o.bind K) := fun ho => by
  cases e : o with
  | none => rw [e] at ho; cases ho
  | some x => exact kk x e (by rw [e] at ho; exact ho)
theorem X_getI (hg : XG g own cc nL fr lo mc ms) (hc : CF c C T N) (hj : j < N) (hty : tyC c j = .int ∨ tyC c j = .boolean) (hm : Cond.fieldLink own idx (T j).1 (T j).2.1 (T j).2.2.1 ∈ lw_tbl) (d : decode cc pc = .ok (.getfield idx, 3)) {K : Int32 → Option α}
    (kk : ∀ x, getI h c a j = some x → Xo g x0 nL k n (pc + 3) lv (.int x :: st) h (K x)) : Xo g x0 nL k n pc lv (.ref (nB g.1 + a) :: st) h ((getI h c a j).bind K) := X_bd fun x e => by
  obtain ⟨q, e2⟩ := getI_some e
  refine X_getV hg hc hj q hm d ?_
  have : fv (nB g.1) h a (tyC c j) j = .int x := by rcases hty with z | z <;> rw [z, e2] <;> rfl
  rw [this]
  exact kk x e
theorem X_getIN (hg : XG g own cc nL fr lo mc ms) {host : String} (hc : CF c C T N) (hj : j < N) (hty : tyC c j = .int ∨ tyC c j = .boolean) (hm : Cond.fieldLinkNest own idx (T j).1 (T j).2.1 (T j).2.2.1 host ∈ lw_tbl) (d : decode cc pc = .ok (.getfield idx, 3)) {K : Int32 → Option α}
    (kk : ∀ x, getI h c a j = some x → Xo g x0 nL k n (pc + 3) lv (.int x :: st) h (K x)) : Xo g x0 nL k n pc lv (.ref (nB g.1 + a) :: st) h ((getI h c a j).bind K) := X_bd fun x e => by
  obtain ⟨q, e2⟩ := getI_some e
  refine X_getVN hg hc hj q hm d ?_
  have : fv (nB g.1) h a (tyC c j) j = .int x := by rcases hty with z | z <;> rw [z, e2] <;> rfl
  rw [this]
  exact kk x e
theorem X_getJ (hg : XG g own cc nL fr lo mc ms) (hc : CF c C T N) (hj : j < N) (hty : tyC c j = .long) (hm : Cond.fieldLink own idx (T j).1 (T j).2.1 (T j).2.2.1 ∈ lw_tbl) (d : decode cc pc = .ok (.getfield idx, 3)) {K : Int64 → Option α}
    (kk : ∀ x, getJ h c a j = some x → Xo g x0 nL k n (pc + 3) lv (.long x :: st) h (K x)) : Xo g x0 nL k n pc lv (.ref (nB g.1 + a) :: st) h ((getJ h c a j).bind K) := X_bd fun x e => by
  obtain ⟨q, e2⟩ := getJ_some e
  refine X_getV hg hc hj q hm d ?_
  have : fv (nB g.1) h a (tyC c j) j = .long x := by rw [hty, e2]; rfl
  rw [this]
  exact kk x e
theorem X_getR (hg : XG g own cc nL fr lo mc ms) (hc : CF c C T N) (hj : j < N) (hty : (∃ n, tyC c j = .object n) ∨ ∃ t, tyC c j = .array t) (hm : Cond.fieldLink own idx (T j).1 (T j).2.1 (T j).2.2.1 ∈ lw_tbl) (d : decode cc pc = .ok (.getfield idx, 3)) {K : Nat → Option α}
    (kk : ∀ x, getR h c a j = some x → Xo g x0 nL k n (pc + 3) lv (.ref (nB g.1 + x) :: st) h (K x)) : Xo g x0 nL k n pc lv (.ref (nB g.1 + a) :: st) h ((getR h c a j).bind K) := X_bd fun x e => by
  obtain ⟨q, e2⟩ := getR_some e
  refine X_getV hg hc hj q hm d ?_
  have : fv (nB g.1) h a (tyC c j) j = .ref (nB g.1 + x) := by rcases hty with ⟨z, hz⟩ | ⟨z, hz⟩ <;> rw [hz] <;> simp [fv, e2, rl]
  rw [this]
  exact kk x e
theorem X_getRN (hg : XG g own cc nL fr lo mc ms) {host : String} (hc : CF c C T N) (hj : j < N) (hty : (∃ n, tyC c j = .object n) ∨ ∃ t, tyC c j = .array t) (hm : Cond.fieldLinkNest own idx (T j).1 (T j).2.1 (T j).2.2.1 host ∈ lw_tbl) (d : decode cc pc = .ok (.getfield idx, 3)) {K : Nat → Option α}
    (kk : ∀ x, getR h c a j = some x → Xo g x0 nL k n (pc + 3) lv (.ref (nB g.1 + x) :: st) h (K x)) : Xo g x0 nL k n pc lv (.ref (nB g.1 + a) :: st) h ((getR h c a j).bind K) := X_bd fun x e => by
  obtain ⟨q, e2⟩ := getR_some e
  refine X_getVN hg hc hj q hm d ?_
  have : fv (nB g.1) h a (tyC c j) j = .ref (nB g.1 + x) := by rcases hty with ⟨z, hz⟩ | ⟨z, hz⟩ <;> rw [hz] <;> simp [fv, e2, rl]
  rw [this]
  exact kk x e
/-- a field that isn't final is written -/
theorem X_putV (hg : XG g own cc nL fr lo mc ms) (hc : CF c C T N) (hj : j < N) (hO : a < hN h ∧ (hK h a).1 = c) (hfin : (T j).2.2.2 = false) {v : Value} (hn : narrow (tyC c j) v = v) (hfit : fits (tyC c j) v = true) (hm : Cond.fieldLink own idx (T j).1 (T j).2.1 (T j).2.2.1 ∈ lw_tbl) (d : decode cc pc = .ok (.putfield idx, 3)) {o : Option α} {h' : Hp}
    (hn' : hN h' = hN h) (hk : hK h' = hK h) (hi' : ∀ q, q ≠ a → ∀ j, hI h' q j = hI h q j) (hr : ∀ q, q ≠ a → ∀ j, hR h' q j = hR h q j) (hjj : ∀ q, q ≠ a → ∀ j, hJ h' q j = hJ h q j) (hf : ∀ k, k < N → fv (nB g.1) h' a (tyC c k) k = if k = j then v else fv (nB g.1) h a (tyC c k) k)
    (kk : Xo g x0 nL k n (pc + 3) lv st h' o) : Xo g x0 nL k n pc lv (v :: .ref (nB g.1 + a) :: st) h o := fun ho ls H locs hl hR hS => by
  have hts := hc.ts (A := #[]) hg.2.2.2.2.1.1
  have hap := va_apart (own := own) hts (fun _ h => h) (tyC c) hc.2.2.2.1 hc.2.2.2.2 hg.2.2.2.2.1.2.1 hc.2.1
  obtain ⟨cell, q1, q2, q3, q4⟩ := obj_of hR hO hc
  obtain ⟨hSl, hfc, kC, hkC, hkind⟩ := hg.2.2.2.2.1.2.1.1 c _ hc.2.1
  obtain ⟨cf, kf, fi, f, hi, hsl⟩ := hSl j hj
  have hlay := hts _ (u_in_lay hj)
  unfold u_lay at hlay
  rw [if_neg (by rw [hfin]; decide)] at hlay
  have hst := (u_facts hfc hkC (u_lays hts (fun _ h => h) hj) hi).1
  have h6 := u_store hfc hkC hkind hlay hi (hc.2.2.2.1 j hj) hn hfit
  refine W.putK hg.1 hg.2.1 (f := f) ⟨hg.2.2.2.1, hg.w hm rfl, ⟨_, _, _, hi⟩, hst⟩ (by rw [q2]; exact h6) q1 q3 (by rw [hsl]; exact k2_hasslot (q4 j hj)) rfl rfl d fun H' e1 e2 e3 => ?_
  rw [hsl] at e1
  exact kk ho ls H' _ hl (rep_field hR hO hc hap hj q2 q3 q4 e1 e2 e3 hn' hk hi' hr hjj hf) (hS.put e2 e3 (Nat.le_add_right _ _))
/-- a final field is written, in its constructor -/
theorem X_putF (hg : XG g own cc nL fr lo mc ms) (hin : g.2.2.2.2.2.2.2.2.1.name = "<init>") (hc : CF c C T N) (hj : j < N) (hO : a < hN h ∧ (hK h a).1 = c) (hfin : (T j).2.2.2 = true) (hdecl : (T j).1 = own) {v : Value} (hn : narrow (tyC c j) v = v) (hfit : fits (tyC c j) v = true) (hm : Cond.fieldLink own idx (T j).1 (T j).2.1 (T j).2.2.1 ∈ lw_tbl) (d : decode cc pc = .ok (.putfield idx, 3)) {o : Option α} {h' : Hp}
    (hn' : hN h' = hN h) (hk : hK h' = hK h) (hi' : ∀ q, q ≠ a → ∀ j, hI h' q j = hI h q j) (hr : ∀ q, q ≠ a → ∀ j, hR h' q j = hR h q j) (hjj : ∀ q, q ≠ a → ∀ j, hJ h' q j = hJ h q j) (hf : ∀ k, k < N → fv (nB g.1) h' a (tyC c k) k = if k = j then v else fv (nB g.1) h a (tyC c k) k)
    (kk : Xo g x0 nL k n (pc + 3) lv st h' o) : Xo g x0 nL k n pc lv (v :: .ref (nB g.1 + a) :: st) h o := fun ho ls H locs hl hR hS => by
  have hts := hc.ts (A := #[]) hg.2.2.2.2.1.1
  have hap := va_apart (own := own) hts (fun _ h => h) (tyC c) hc.2.2.2.1 hc.2.2.2.2 hg.2.2.2.2.1.2.1 hc.2.1
  obtain ⟨cell, q1, q2, q3, q4⟩ := obj_of hR hO hc
  obtain ⟨hSl, hfc, kC, hkC, hkind⟩ := hg.2.2.2.2.1.2.1.1 c _ hc.2.1
  obtain ⟨cf, kf, fi, f, hi, hsl⟩ := hSl j hj
  have hlay := hts _ (u_in_lay hj)
  unfold u_lay at hlay
  rw [if_pos hfin] at hlay
  have hst := (u_facts hfc hkC (u_lays hts (fun _ h => h) hj) hi).1
  have hcf : g.2.2.2.2.2.1.cls = cf := by
    obtain ⟨_, _, c', _, _, _, -, -, hf', -, -, -, hown2, -⟩ := Cond.laysFinal_spec hlay
    have e1 : c' = cf := by have := hi.symm.trans hf'; simp at this; exact this.1.symm
    rw [hdecl] at hown2
    rw [← e1]; exact Option.some.inj (hg.2.2.2.1.symm.trans hown2)
  have h6 := u_fits hfc hkC hkind (Or.inr hlay) hi (hc.2.2.2.1 j hj) hn hfit
  refine W.putFinK hg.1 hg.2.1 hg.2.2.2.1 (hg.w hm rfl) hi hst hcf hin (by rw [q2]; exact h6) q1 q3 (by rw [hsl]; exact k2_hasslot (q4 j hj)) rfl rfl d fun H' e1 e2 e3 => ?_
  rw [hsl] at e1
  exact kk ho ls H' _ hl (rep_field hR hO hc hap hj q2 q3 q4 e1 e2 e3 hn' hk hi' hr hjj hf) (hS.put e2 e3 (Nat.le_add_right _ _))
theorem putI_some {v : Int32} {h' : Hp} (e : putI h c a j v = some h') : (a < hN h ∧ (hK h a).1 = c) ∧ h' = setI h a j v := by
  unfold putI at e
  split at e
  · next q => exact ⟨q, (Option.some.inj e).symm⟩
  · cases e
theorem putJ_some {v : Int64} {h' : Hp} (e : putJ h c a j v = some h') : (a < hN h ∧ (hK h a).1 = c) ∧ h' = setJ h a j v := by
  unfold putJ at e
  split at e
  · next q => exact ⟨q, (Option.some.inj e).symm⟩
  · cases e
theorem putR_some {v : Nat} {h' : Hp} (e : putR h c a j v = some h') : (a < hN h ∧ (hK h a).1 = c) ∧ h' = setR h a j (some v) := by
  unfold putR at e
  split at e
  · next q => exact ⟨q, (Option.some.inj e).symm⟩
  · cases e
theorem X_putI (hg : XG g own cc nL fr lo mc ms) (hc : CF c C T N) (hj : j < N) (hfin : (T j).2.2.2 = false) {v : Int32} (hty : tyC c j = .int ∨ tyC c j = .boolean ∧ (v = 0 ∨ v = 1)) (hm : Cond.fieldLink own idx (T j).1 (T j).2.1 (T j).2.2.1 ∈ lw_tbl) (d : decode cc pc = .ok (.putfield idx, 3)) {K : Hp → Option α}
    (kk : ∀ h', putI h c a j v = some h' → Xo g x0 nL k n (pc + 3) lv st h' (K h')) : Xo g x0 nL k n pc lv (.int v :: .ref (nB g.1 + a) :: st) h ((putI h c a j v).bind K) := X_bd fun h' e => by
  obtain ⟨q, e2⟩ := putI_some e
  have ht : tyC c j = .int ∨ tyC c j = .boolean := hty.imp id And.left
  refine X_putV hg hc hj q hfin (v := .int v) ?_ ?_ hm d (h' := h') (by rw [e2]; rfl) (by rw [e2]; rfl) (fun q hq j => ?_) (fun q hq j => by rw [e2]; rfl) (fun q hq j => by rw [e2]; rfl) (fun k' hk' => ?_) (kk h' e)
  · rcases hty with z | ⟨z, rfl | rfl⟩ <;> rw [z] <;> rfl
  · rcases hty with z | ⟨z, rfl | rfl⟩ <;> rw [z] <;> rfl
  · rw [e2]; show u2 _ _ _ _ q j = _; simp [u2, hq, hI]
  · rw [e2]; exact fv_setI ht k' _ (fun z => by rw [z])
theorem X_putJ (hg : XG g own cc nL fr lo mc ms) (hc : CF c C T N) (hj : j < N) (hfin : (T j).2.2.2 = false) {v : Int64} (hty : tyC c j = .long) (hm : Cond.fieldLink own idx (T j).1 (T j).2.1 (T j).2.2.1 ∈ lw_tbl) (d : decode cc pc = .ok (.putfield idx, 3)) {K : Hp → Option α}
    (kk : ∀ h', putJ h c a j v = some h' → Xo g x0 nL k n (pc + 3) lv st h' (K h')) : Xo g x0 nL k n pc lv (.long v :: .ref (nB g.1 + a) :: st) h ((putJ h c a j v).bind K) := X_bd fun h' e => by
  obtain ⟨q, e2⟩ := putJ_some e
  refine X_putV hg hc hj q hfin (v := .long v) (by rw [hty]; rfl) (by rw [hty]; rfl) hm d (h' := h') (by rw [e2]; rfl) (by rw [e2]; rfl) (fun q hq j => by rw [e2]; rfl) (fun q hq j => by rw [e2]; rfl) (fun q hq j => ?_) (fun k' hk' => ?_) (kk h' e)
  · rw [e2]; show u2 _ _ _ _ q j = _; simp [u2, hq, hJ]
  · rw [e2]; exact fv_setJ k' _ (fun z => by rw [z]; exact hty)
theorem ref_ok {ty : FieldType} (hty : (∃ n, ty = .object n) ∨ ∃ t, ty = .array t) (b : Nat) : narrow ty (.ref b) = .ref b ∧ fits ty (.ref b) = true := by
  rcases hty with ⟨z, rfl⟩ | ⟨z, rfl⟩ <;> exact ⟨rfl, rfl⟩
theorem X_putR (hg : XG g own cc nL fr lo mc ms) (hc : CF c C T N) (hj : j < N) (hfin : (T j).2.2.2 = false) {v : Nat} (hty : (∃ n, tyC c j = .object n) ∨ ∃ t, tyC c j = .array t) (hm : Cond.fieldLink own idx (T j).1 (T j).2.1 (T j).2.2.1 ∈ lw_tbl) (d : decode cc pc = .ok (.putfield idx, 3)) {K : Hp → Option α}
    (kk : ∀ h', putR h c a j v = some h' → Xo g x0 nL k n (pc + 3) lv st h' (K h')) : Xo g x0 nL k n pc lv (.ref (nB g.1 + v) :: .ref (nB g.1 + a) :: st) h ((putR h c a j v).bind K) := X_bd fun h' e => by
  obtain ⟨q, e2⟩ := putR_some e
  refine X_putV hg hc hj q hfin (v := .ref (nB g.1 + v)) (ref_ok hty _).1 (ref_ok hty _).2 hm d (h' := h') (by rw [e2]; rfl) (by rw [e2]; rfl) (fun q hq j => by rw [e2]; rfl) (fun q hq j => ?_) (fun q hq j => by rw [e2]; rfl) (fun k' hk' => ?_) (kk h' e)
  · rw [e2]; show u2 _ _ _ _ q j = _; simp [u2, hq, hR]
  · rw [e2]; exact fv_setR hty k' _ (fun z => by rw [z])
theorem X_putRF (hg : XG g own cc nL fr lo mc ms) (hin : g.2.2.2.2.2.2.2.2.1.name = "<init>") (hc : CF c C T N) (hj : j < N) (hfin : (T j).2.2.2 = true) (hdecl : (T j).1 = own) {v : Nat} (hty : (∃ n, tyC c j = .object n) ∨ ∃ t, tyC c j = .array t) (hm : Cond.fieldLink own idx (T j).1 (T j).2.1 (T j).2.2.1 ∈ lw_tbl) (d : decode cc pc = .ok (.putfield idx, 3)) {K : Hp → Option α}
    (kk : ∀ h', putR h c a j v = some h' → Xo g x0 nL k n (pc + 3) lv st h' (K h')) : Xo g x0 nL k n pc lv (.ref (nB g.1 + v) :: .ref (nB g.1 + a) :: st) h ((putR h c a j v).bind K) := X_bd fun h' e => by
  obtain ⟨q, e2⟩ := putR_some e
  refine X_putF hg hin hc hj q hfin hdecl (v := .ref (nB g.1 + v)) (ref_ok hty _).1 (ref_ok hty _).2 hm d (h' := h') (by rw [e2]; rfl) (by rw [e2]; rfl) (fun q hq j => by rw [e2]; rfl) (fun q hq j => ?_) (fun q hq j => by rw [e2]; rfl) (fun k' hk' => ?_) (kk h' e)
  · rw [e2]; show u2 _ _ _ _ q j = _; simp [u2, hq, hR]
  · rw [e2]; exact fv_setR hty k' _ (fun z => by rw [z])
end
end
section
/-! ARRAYS, NEW CELLS -/
section
variable {α : Type} {g : XC} {x0 : α} {own : String} {cc : ByteArray} {nL fr lo mc ms k n pc : Nat} {lv lv' : List (Nat × Value)} {st : List Value} {h : Hp} {c a j idx : Nat} {C : String} {T : u_T} {N : Nat}
theorem ald_some {i x : Int32} (e : ald h a i = some x) : ((a < hN h ∧ (hK h a).1 = 11) ∧ inA i (hK h a).2) ∧ x = hI h a i.toInt.toNat := by
  unfold ald at e
  split at e
  · next q => exact ⟨q, (Option.some.inj e).symm⟩
  · cases e
theorem ast_some {i v : Int32} {h' : Hp} (e : ast h a i v = some h') : ((a < hN h ∧ (hK h a).1 = 11) ∧ inA i (hK h a).2) ∧ h' = setI h a i.toInt.toNat v := by
  unfold ast at e
  split at e
  · next q => exact ⟨q, (Option.some.inj e).symm⟩
  · cases e
theorem aldN_some {i : Int32} {x : Option Nat} (e : aldN h a i = some x) : ((a < hN h ∧ (hK h a).1 = 12) ∧ inA i (hK h a).2) ∧ x = hR h a i.toInt.toNat := by
  unfold aldN at e
  split at e
  · next q => exact ⟨q, (Option.some.inj e).symm⟩
  · cases e
theorem aldA_some {i : Int32} {x : Nat} (e : aldA h a i = some x) : ((a < hN h ∧ (hK h a).1 = 13) ∧ inA i (hK h a).2) ∧ hR h a i.toInt.toNat = some x := by
  unfold aldA at e
  split at e
  · next q => exact ⟨q, e⟩
  · cases e
theorem astN_some {i : Int32} {v : Option Nat} {h' : Hp} (e : astN h a i v = some h') : (((a < hN h ∧ (hK h a).1 = 12) ∧ inA i (hK h a).2) ∧ (∀ x ∈ v, x < hN h ∧ (hK h x).1 = 1)) ∧ h' = setR h a i.toInt.toNat v := by
  unfold astN at e
  split at e
  · next q => exact ⟨q, (Option.some.inj e).symm⟩
  · cases e
theorem aln_some {x : Int32} (e : aln h c a = some x) : (a < hN h ∧ (hK h a).1 = c) ∧ x = Int32.ofNat (hK h a).2 := by
  unfold aln at e
  split at e
  · next q => exact ⟨q, (Option.some.inj e).symm⟩
  · cases e
theorem X_ald (hg : XG g own cc nL fr lo mc ms) {i : Int32} (d : decode cc pc = .ok (.iaload, 1)) {K : Int32 → Option α} (kk : ∀ x, ald h a i = some x → Xo g x0 nL k n (pc + 1) lv (.int x :: st) h (K x)) : Xo g x0 nL k n pc lv (.int i :: .ref (nB g.1 + a) :: st) h ((ald h a i).bind K) := X_bd fun x e ho ls H locs hl hP hS => by
  obtain ⟨⟨q, hi⟩, e2⟩ := ald_some e
  have hcell := (cellAt.int q.2).mp (hP.2 a q.1)
  have hlt : i.toNatClampNeg < (hK h a).2 := Nat.not_le.mp fun z => inA_vp hi (Or.inr z)
  exact W.iald hg.1 hg.2.1 hcell ((hg.2.2.2.2.1.2.1.2 0 _ rfl).1 _ _) (fun z => by cases z) (by rw [arrV_size]; exact inA_vp hi) (by show (arrV _ _ _).slots[_]? = some (Value.int x); rw [arrV_read _ _ hlt, e2]; rfl) rfl rfl d (kk x e ho ls H locs hl hP hS)
theorem X_ast (hg : XG g own cc nL fr lo mc ms) {i v : Int32} (d : decode cc pc = .ok (.iastore, 1)) {K : Hp → Option α} (kk : ∀ h', ast h a i v = some h' → Xo g x0 nL k n (pc + 1) lv st h' (K h')) : Xo g x0 nL k n pc lv (.int v :: .int i :: .ref (nB g.1 + a) :: st) h ((ast h a i v).bind K) := X_bd fun h' e ho ls H locs hl hP hS => by
  obtain ⟨⟨q, hi⟩, e2⟩ := ast_some e
  have hcell := (cellAt.int q.2).mp (hP.2 a q.1)
  refine W.iast hg.1 hg.2.1 hcell ((hg.2.2.2.2.1.2.1.2 0 _ rfl).1 _ _) (fun z => by cases z) (by rw [arrV_size]; exact inA_vp hi) rfl rfl d fun H' e1 z1 o1 => ?_
  refine kk h' e ho ls H' _ hl ?_ (hS.put z1 o1 (Nat.le_add_right _ _))
  rw [e2]
  refine hP.setI z1 o1 ((cellAt.int (h := setI h a i.toInt.toNat v) q.2).mpr ?_)
  rw [e1, arrV_store]
  refine congrArg some (congrArg (arrV _ _) (funext fun z => ?_))
  show updV _ _ _ _ = Value.int (u2 _ _ _ _ _ _)
  unfold updV u2
  by_cases hz : z = i.toInt.toNat
  · rw [if_pos (show z = i.toNatClampNeg from hz), if_pos ⟨rfl, hz⟩]
  · rw [if_neg (show ¬ z = i.toNatClampNeg from hz), if_neg (fun y => hz y.2)]; rfl
theorem X_aldN (hg : XG g own cc nL fr lo mc ms) {i : Int32} (d : decode cc pc = .ok (.aaload, 1)) {K : Option Nat → Option α} (kk : ∀ x, aldN h a i = some x → Xo g x0 nL k n (pc + 1) lv (rl (nB g.1) x :: st) h (K x)) : Xo g x0 nL k n pc lv (.int i :: .ref (nB g.1 + a) :: st) h ((aldN h a i).bind K) := X_bd fun x e ho ls H locs hl hP hS => by
  obtain ⟨⟨q, hi⟩, e2⟩ := aldN_some e
  have hcell := (cellAt.ent q.2).mp (hP.2 a q.1)
  have hlt : i.toNatClampNeg < (hK h a).2 := Nat.not_le.mp fun z => inA_vp hi (Or.inr z)
  exact W.aald (ty := .object "DialMenus$Entry") hg.1 hg.2.1 hcell ((hg.2.2.2.2.1.2.1.2 1 _ rfl).1 _ _) rfl (fun z => by cases z) (by rw [arrV_size]; exact inA_vp hi) (by show (arrV _ _ _).slots[_]? = some (rl (nB g.1) x); rw [arrV_read _ _ hlt, e2]; rfl) rfl rfl d (kk x e ho ls H locs hl hP hS)
theorem X_aldA (hg : XG g own cc nL fr lo mc ms) {i : Int32} (d : decode cc pc = .ok (.aaload, 1)) {K : Nat → Option α} (kk : ∀ x, aldA h a i = some x → Xo g x0 nL k n (pc + 1) lv (.ref (nB g.1 + x) :: st) h (K x)) : Xo g x0 nL k n pc lv (.int i :: .ref (nB g.1 + a) :: st) h ((aldA h a i).bind K) := X_bd fun x e ho ls H locs hl hP hS => by
  obtain ⟨⟨q, hi⟩, e2⟩ := aldA_some e
  have hcell := (cellAt.row q.2).mp (hP.2 a q.1)
  have hlt : i.toNatClampNeg < (hK h a).2 := Nat.not_le.mp fun z => inA_vp hi (Or.inr z)
  exact W.aald (ty := .array .int) hg.1 hg.2.1 hcell ((hg.2.2.2.2.1.2.1.2 2 _ rfl).1 _ _) rfl (fun z => by cases z) (by rw [arrV_size]; exact inA_vp hi) (by show (arrV _ _ _).slots[_]? = some (Value.ref (nB g.1 + x)); rw [arrV_read _ _ hlt]; show some (rl _ (hR h a i.toInt.toNat)) = _; rw [e2]; rfl) rfl rfl d (kk x e ho ls H locs hl hP hS)
theorem X_aln (hg : XG g own cc nL fr lo mc ms) (hc : c = 11 ∨ c = 12 ∨ c = 13) (d : decode cc pc = .ok (.arraylength, 1)) {K : Int32 → Option α} (kk : ∀ x, aln h c a = some x → Xo g x0 nL k n (pc + 1) lv (.int x :: st) h (K x)) : Xo g x0 nL k n pc lv (.ref (nB g.1 + a) :: st) h ((aln h c a).bind K) := X_bd fun x e ho ls H locs hl hP hS => by
  obtain ⟨q, e2⟩ := aln_some e
  rcases hc with rfl | rfl | rfl
  · exact W.alen hg.1 hg.2.1 ((cellAt.int q.2).mp (hP.2 a q.1)) ((hg.2.2.2.2.1.2.1.2 0 _ rfl).1 _ _) (by rw [arrV_size, e2]) rfl rfl d (kk x e ho ls H locs hl hP hS)
  · exact W.alen hg.1 hg.2.1 ((cellAt.ent q.2).mp (hP.2 a q.1)) ((hg.2.2.2.2.1.2.1.2 1 _ rfl).1 _ _) (by rw [arrV_size, e2]) rfl rfl d (kk x e ho ls H locs hl hP hS)
  · exact W.alen hg.1 hg.2.1 ((cellAt.row q.2).mp (hP.2 a q.1)) ((hg.2.2.2.2.1.2.1.2 2 _ rfl).1 _ _) (by rw [arrV_size, e2]) rfl rfl d (kk x e ho ls H locs hl hP hS)
theorem cellAt_setR {en : EN} {H' : Heap} {i : Int32} {v : Option Nat} (q : (hK h a).1 = 12) (e1 : H'[nB en + a]? = some ((arrV (nA en 1) (hK h a).2 (fun j => rl (nB en) (hR h a j))).setSlot i.toNatClampNeg (rl (nB en) v))) : cellAt en (setR h a i.toInt.toNat v) a H' := by
  refine (cellAt.ent (h := setR h a i.toInt.toNat v) q).mpr ?_
  rw [e1, arrV_store]
  refine congrArg some (congrArg (arrV _ _) (funext fun z => ?_))
  show updV _ _ _ _ = rl _ (u2 _ _ _ _ _ _)
  unfold updV u2
  by_cases hz : z = i.toInt.toNat
  · rw [if_pos (show z = i.toNatClampNeg from hz), if_pos ⟨rfl, hz⟩]
  · rw [if_neg (show ¬ z = i.toNatClampNeg from hz), if_neg (fun y => hz y.2)]; rfl
theorem X_astN (hg : XG g own cc nL fr lo mc ms) (hc : CF 1 "DialMenus$Entry" T N) {i : Int32} {v : Option Nat} (d : decode cc pc = .ok (.aastore, 1)) {K : Hp → Option α} (kk : ∀ h', astN h a i v = some h' → Xo g x0 nL k n (pc + 1) lv st h' (K h')) : Xo g x0 nL k n pc lv (rl (nB g.1) v :: .int i :: .ref (nB g.1 + a) :: st) h ((astN h a i v).bind K) := X_bd fun h' e ho ls H locs hl hP hS => by
  obtain ⟨⟨⟨q, hi⟩, hv⟩, e2⟩ := astN_some e
  have hcell := (cellAt.ent q.2).mp (hP.2 a q.1)
  have hlt : i.toNatClampNeg < (hK h a).2 := Nat.not_le.mp fun z => inA_vp hi (Or.inr z)
  have h0 : ¬ i < 0 := fun z => inA_vp hi (Or.inl z)
  cases v with
  | none =>
    refine va_WaastN (C := "DialMenus$Entry") hg.1 hg.2.1 hcell ((hg.2.2.2.2.1.2.1.2 1 _ rfl).1 _ _) (fun z => by cases z) (by rw [arrV_size]; exact inA_vp hi) rfl rfl d fun H' e1 z1 o1 => ?_
    refine kk h' e ho ls H' _ hl ?_ (hS.put z1 o1 (Nat.le_add_right _ _))
    rw [e2]
    exact hP.setR z1 o1 (cellAt_setR q.2 e1)
  | some x =>
    obtain ⟨cellV, g1, g2, g3, -⟩ := obj_of hP (hv x rfl) hc
    have hcls := (hg.2.2.2.2.1.2.1.1 1 _ hc.2.1).2
    obtain ⟨kA, comp, k1, k2, k3, -⟩ := (hg.2.2.2.2.1.2.1.2 1 _ rfl).2
    have hcomp : comp = nC g.1 1 := Option.some.inj (k3.symm.trans hcls.1)
    subst hcomp
    obtain ⟨kC, hkC, -⟩ := hcls.2
    refine W.aast hg.1 hg.2.1 hcell (fun z y => by cases y) (fun y => by cases y) k1 k2 rfl hkC ⟨h0, by rw [arrV_size]; exact hlt⟩ g1 (fun z y => by rw [g3] at y; cases y) (by rw [g2]; exact hkC) (by rw [g2]; exact va_assign hcls) rfl rfl d fun H' e1 z1 o1 => ?_
    refine kk h' e ho ls H' _ hl ?_ (hS.put z1 o1 (Nat.le_add_right _ _))
    rw [e2]
    exact hP.setR z1 o1 (cellAt_setR q.2 e1)
theorem S_grow {en : EN} {H0 H H' : Heap} {locs : List Loc} (hS : va_S (fun q => nB en ≤ q) H0 H locs) (hz : H.size ≤ H'.size) (ho : ∀ q, q < H.size → H'[q]? = H[q]?) : va_S (fun q => nB en ≤ q) H0 H' locs :=
  ⟨Nat.le_trans hS.1 hz, fun q h1 h2 => (ho q (Nat.lt_of_lt_of_le h1 hS.1)).trans (hS.2.1 q h1 h2), hS.2.2⟩
/-- a new object -/
theorem X_new (hg : XG g own cc nL fr lo mc ms) (hc : CF c C T N) (hok : ∀ j, j < N → okT (tyC c j) = true) (hm : Cond.classLink own idx C ∈ lw_tbl) (hm2 : Cond.instantiable C N ∈ lw_tbl) (hm3 : Cond.initialized C ∈ lw_tbl) (hk1 : k + 1 ≤ mc) (hn1 : n + N ≤ ms) (d : decode cc pc = .ok (.new idx, 3)) {o : Option α}
    (kk : Xo g x0 nL (k + 1) (n + N) (pc + 3) lv (.ref (nB g.1 + hN h) :: st) (newC h c 0 (fun _ => 0)) o) : Xo g x0 nL k n pc lv st h o := fun ho ls H locs hl hP hS => by
  have hKn := hg.2.2.2.2.1.2.1.1 c _ hc.2.1
  have hRm := hg.2.2.2.2.2.2
  refine W.newcK hg.1 hg.2.1 hg.2.2.2.1 (hg.w hm rfl) (hg.w hm2 rfl) (hg.w hm3 rfl) rfl d (by rw [hRm]; exact hk1) (by rw [hRm]; exact hn1) hKn.2.1 hP.1 fun H1 kC hkC e1 z1 o1 => ?_
  have hz : H1.size = H.size + 1 := by rw [z1, hP.1]
  have ho1 : ∀ q, q < H.size → H1[q]? = H[q]? := fun q hq => o1 q (by rw [← hP.1]; exact hq)
  refine kk ho ls H1 locs hl (hP.newC hz ho1 ?_) (S_grow hS (by omega) ho1)
  have ek0 : hK (newC h c 0 (fun _ => 0)) (hN h) = (c, 0) := by show va_up _ _ _ _ = _; rw [show h.1 = hN h from rfl, va_up_self]
  have ek : (hK (newC h c 0 (fun _ => 0)) (hN h)).1 = c := by rw [ek0]
  refine (cellAt.obj ek hc.1).mpr ⟨_, hc.2.1, (u_born (tyC c) (hc.ts (A := #[]) hg.2.2.2.2.1.1) (fun _ h => h) hKn hkC e1 hc.2.2.2.1).to (fun j hj => ?_)⟩
  have hj2 := hok j hj
  have i1 : hI (newC h c 0 (fun _ => 0)) (hN h) j = 0 := by show nr _ _ (fun _ => (0 : Int32)) _ _ = _; simp [nr, hN]
  have i2 : hR (newC h c 0 (fun _ => 0)) (hN h) j = none := by show nr _ _ (fun _ => none) _ _ = _; simp [nr, hN]
  have i3 : hJ (newC h c 0 (fun _ => 0)) (hN h) j = 0 := by show nr _ _ (fun _ => (0 : Int64)) _ _ = _; simp [nr, hN]
  unfold fv
  rw [i1, i2, i3]
  cases hty : tyC c j <;> rw [hty] at hj2 <;> first | rfl | cases hj2
theorem newA_some {B : Nat} {i : Int32} {h' : Hp} (e : newA h B i = some h') : (0 ≤ i.toInt ∧ i.toInt ≤ (B : Int)) ∧ h' = newC h 11 i.toInt.toNat (fun _ => 0) := by
  unfold newA at e
  split at e
  · next q => exact ⟨q, (Option.some.inj e).symm⟩
  · cases e
theorem newE_some {B : Nat} {i : Int32} {h' : Hp} (e : newE h B i = some h') : (0 ≤ i.toInt ∧ i.toInt ≤ (B : Int)) ∧ h' = newC h 12 i.toInt.toNat (fun _ => 0) := by
  unfold newE at e
  split at e
  · next q => exact ⟨q, (Option.some.inj e).symm⟩
  · cases e
theorem cellAt_newI {en : EN} {H' : Heap} {c len : Nat} {f : Nat → Int32} (hc : c = 11) (e1 : H'[nB en + hN h]? = some (arrV (nA en 0) len (fun j => .int (f j)))) : cellAt en (newC h c len f) (hN h) H' := by
  have ek : hK (newC h c len f) (hN h) = (c, len) := by show va_up _ _ _ _ = _; rw [show h.1 = hN h from rfl, va_up_self]
  refine (cellAt.int (by rw [ek]; exact hc)).mpr ?_
  rw [ek, e1]
  refine congrArg some (congrArg (arrV _ _) (funext fun z => ?_))
  show _ = Value.int (nr _ _ _ _ _)
  simp [nr, hN]
theorem X_newA (hg : XG g own cc nL fr lo mc ms) {B : Nat} {i : Int32} (hm : Cond.arrayClass .int ∈ lw_tbl) (hB : B ≤ 100000) (hk1 : k + 1 ≤ mc) (hn1 : n + B ≤ ms) (d : decode cc pc = .ok (.newarray .int, 2)) {K : Hp → Option α}
    (kk : ∀ h', newA h B i = some h' → Xo g x0 nL (k + 1) (n + B) (pc + 2) lv (.ref (nB g.1 + hN h) :: st) h' (K h')) : Xo g x0 nL k n pc lv (.int i :: st) h ((newA h B i).bind K) := X_bd fun h' e ho ls H locs hl hP hS => by
  obtain ⟨⟨q1, q2⟩, e2⟩ := newA_some e
  have hRm := hg.2.2.2.2.2.2
  have hlen : i.toNatClampNeg ≤ B := by show i.toInt.toNat ≤ B; omega
  refine va_newaK hg.1 hg.2.1 (atype := .int) (hg.w hm rfl) rfl d rfl (fun z => by have := Int32.lt_iff_toInt_lt.mp z; simp at this; omega) rfl (by show i.toNatClampNeg * 4 ≤ _; omega) (by rw [hRm]; exact hk1) (by rw [hRm]; show n + i.toNatClampNeg ≤ ms; omega) hP.1 fun H1 cA e1 z1 o1 hAr hfn => ?_
  have hz : H1.size = H.size + 1 := by rw [z1, hP.1]
  have ho1 : ∀ q, q < H.size → H1[q]? = H[q]? := fun q hq => o1 q (by rw [← hP.1]; exact hq)
  have hcA : cA = nA g.1 0 := Option.some.inj (hfn.symm.trans (hg.2.2.2.2.1.2.1.2 0 _ rfl).2)
  subst hcA
  refine W.widen (Nat.le_refl _) (by omega) (kk h' e ho ls H1 locs hl ?_ (S_grow hS (by omega) ho1))
  rw [e2]
  exact hP.newC hz ho1 (cellAt_newI rfl e1)
theorem X_newE (hg : XG g own cc nL fr lo mc ms) {B : Nat} {i : Int32} (hm : Cond.classLink own idx "DialMenus$Entry" ∈ lw_tbl) (hm2 : Cond.arrayOver (.object "DialMenus$Entry") ∈ lw_tbl) (hB : B ≤ 100000) (hk1 : k + 1 ≤ mc) (hn1 : n + B ≤ ms) (d : decode cc pc = .ok (.anewarray idx, 3)) {K : Hp → Option α}
    (kk : ∀ h', newE h B i = some h' → Xo g x0 nL (k + 1) (n + B) (pc + 3) lv (.ref (nB g.1 + hN h) :: st) h' (K h')) : Xo g x0 nL k n pc lv (.int i :: st) h ((newE h B i).bind K) := X_bd fun h' e ho ls H locs hl hP hS => by
  obtain ⟨⟨q1, q2⟩, e2⟩ := newE_some e
  have hRm := hg.2.2.2.2.2.2
  have hlen : i.toNatClampNeg ≤ B := by show i.toInt.toNat ≤ B; omega
  refine W.anew hg.1 hg.2.1 hg.2.2.2.1 (hg.w hm rfl) (hg.w hm2 rfl) rfl d rfl (fun z => by have := Int32.lt_iff_toInt_lt.mp z; simp at this; omega) (by omega) (by rw [hRm]; exact hk1) (by rw [hRm]; show n + i.toNatClampNeg ≤ ms; omega) fun cA kA comp f1 f2 f3 f4 => ?_
  obtain ⟨_, _, -, -, -, hf⟩ := (hg.2.2.2.2.1.2.1.2 1 _ rfl).2
  have hcA : cA = nA g.1 1 := Option.some.inj (f1.symm.trans hf)
  subst hcA
  have hz : (H.push ({ cls := nA g.1 1, slots := Array.replicate i.toNatClampNeg .null, vm := .none } : Cell)).size = H.size + 1 := by rw [Array.size_push]
  have ho1 : ∀ q, q < H.size → (H.push ({ cls := nA g.1 1, slots := Array.replicate i.toNatClampNeg .null, vm := .none } : Cell))[q]? = H[q]? := fun q hq => by rw [Array.getElem?_push, if_neg (Nat.ne_of_lt hq)]
  have K1 := kk h' e ho ls (H.push ({ cls := nA g.1 1, slots := Array.replicate i.toNatClampNeg .null, vm := .none } : Cell)) locs hl ?_ (S_grow hS (by omega) ho1)
  · refine W.widen (Nat.le_refl _) (by omega : n + i.toNatClampNeg ≤ n + B) (W.eq ?_ K1)
    show F0 _ _ _ _ = F0 _ _ _ _
    rw [hP.1]
  · rw [e2]
    refine hP.newC hz ho1 ?_
    have ek : hK (newC h 12 i.toInt.toNat (fun _ => 0)) (hN h) = (12, i.toInt.toNat) := by show va_up _ _ _ _ = _; rw [show h.1 = hN h from rfl, va_up_self]
    refine (cellAt.ent (by rw [ek])).mpr ?_
    rw [ek, ← hP.1, Array.getElem?_push_size, arrV_new]
    refine congrArg some (congrArg (arrV _ _) (funext fun z => ?_))
    have i2 : hR (newC h 12 i.toInt.toNat (fun _ => 0)) (hN h) z = none := by show nr _ _ (fun _ => none) _ _ = _; simp [nr, hN]
    rw [i2]
    rfl
end
end
section
/-! WHAT THE LIBRARY DOES, CALLS, RETURNS -/
theorem outer_is (c : ClassId) (N b h0 : Nat) : ∀ i : Nat, Jvm.Free.Multi.outerC c N (b + h0) i = arrV c N (fun j => rl b (if j < i then some (h0 + 1 + j) else none))
  | 0 => by
    show ({ cls := c, slots := Array.replicate N .null, vm := .none } : Cell) = _
    rw [arrV_new]
    refine congrArg (arrV c N) (funext fun j => ?_)
    simp [rl]
  | i + 1 => by
    show (Jvm.Free.Multi.outerC c N (b + h0) i).setSlot i (.ref (b + h0 + 1 + i)) = _
    rw [outer_is c N b h0 i, arrV_store]
    refine congrArg (arrV c N) (funext fun j => ?_)
    by_cases e : j = i
    · subst e
      simp [updV, rl, Nat.add_assoc]
    · by_cases h : j < i
      · simp [updV, e, h, Nat.lt_succ_of_lt h]
      · simp [updV, e, h, show ¬ j < i + 1 by omega]
section
variable {α : Type} {g : XC} {x0 : α} {own : String} {cc : ByteArray} {nL fr lo mc ms k n pc : Nat} {lv lv' : List (Nat × Value)} {st : List Value} {h : Hp} {c a j idx : Nat} {C : String} {T : u_T} {N : Nat}
theorem X_newM (hg : XG g own cc nL fr lo mc ms) {N K' : Nat} {i1 i2 : Int32} (e1 : i1.toNatClampNeg = N) (e2 : i2.toNatClampNeg = K') (h1 : ¬ i1 < 0) (h2 : ¬ i2 < 0) (hN : N ≤ 10000) (hK' : K' ≤ 10000) (hm : Cond.classLink own idx "[[I" ∈ lw_tbl) (hm2 : Cond.arrayOver (.array .int) ∈ lw_tbl) (hm3 : Cond.arrayClass .int ∈ lw_tbl) (hk1 : k + (1 + N) ≤ mc) (hn1 : n + (N + N * K') ≤ ms) (d : decode cc pc = .ok (.multianewarray idx 2, 4)) {o : Option α}
    (kk : Xo g x0 nL (k + 1 + N) (n + N + N * K') (pc + 4) lv (.ref (nB g.1 + h.1) :: st) (newM h N K') o) : Xo g x0 nL k n pc lv (.int i2 :: .int i1 :: st) h o := fun ho ls H locs hl hP hS => by
  subst e1
  subst e2
  have hRm := hg.2.2.2.2.2.2
  intro Ts hT Xs
  obtain ⟨vm₁, cA, comp, -, fA, fC, hO, -, X', step⟩ := Jvm.Stand.multianewarray2F Xs hg.1 (own := own) (index := idx) (ty := .int) hg.2.2.2.1 (hg.w hm rfl) (hg.w hm2 rfl) (hg.w hm3 rfl) (g := F0 _ pc ls (.int i2 :: .int i1 :: st)) rfl (by rw [hg.2.1]; exact d) rfl h1 h2 (by omega) (by show i2.toNatClampNeg * 4 ≤ _; omega) (by omega) rfl rfl (by rw [hRm]; exact hk1) (by rw [hRm]; exact hn1)
  have hcA : cA = nA g.1 2 := Option.some.inj (fA.symm.trans (hg.2.2.2.2.1.2.1.2 2 _ rfl).2)
  have hcy : comp = nA g.1 0 := Option.some.inj (fC.symm.trans (hg.2.2.2.2.1.2.1.2 0 _ rfl).2)
  subst hcA
  subst hcy
  generalize hF : Jvm.Free.Multi.fill (Ts.setVm vm₁) (nA g.1 2) (nA g.1 0) i1.toNatClampNeg i2.toNatClampNeg (defaultValue FieldType.int) i1.toNatClampNeg = F at X' step
  have hTh : (Ts.setVm vm₁).heap = H := hT
  obtain ⟨f1, f2, -, -⟩ := Jvm.Free.Multi.fill_facts (Ts.setVm vm₁) (nA g.1 2) (nA g.1 0) i1.toNatClampNeg i2.toNatClampNeg (defaultValue FieldType.int) i1.toNatClampNeg
  rw [hF, hTh] at f1 f2
  have hold : ∀ x : Nat, x < H.size → F.heap[x]? = H[x]? := fun x hx => by
    have := Jvm.Free.Multi.fill_old (Ts.setVm vm₁) (nA g.1 2) (nA g.1 0) i1.toNatClampNeg i2.toNatClampNeg (defaultValue FieldType.int) (a := x) (by rw [hTh]; exact hx) i1.toNatClampNeg
    rw [hF, hTh] at this
    exact this
  have hrow : ∀ j : Nat, j < i1.toNatClampNeg → F.heap[H.size + 1 + j]? = some (Jvm.Free.Multi.innerC (nA g.1 0) i2.toNatClampNeg (defaultValue FieldType.int)) := fun j hj => by
    have := Jvm.Free.Multi.fill_inner (Ts.setVm vm₁) (nA g.1 2) (nA g.1 0) i1.toNatClampNeg i2.toNatClampNeg (defaultValue FieldType.int) i1.toNatClampNeg j hj
    rw [hF, hTh] at this
    exact this
  have hsz : H.size = nB g.1 + h.1 := hP.1
  have hout := outer_is (nA g.1 2) i1.toNatClampNeg (nB g.1) h.1 i1.toNatClampNeg
  rw [← hsz] at hout
  rw [hout] at f2
  have hRep : Rep g.1 (newM h i1.toNatClampNeg i2.toNatClampNeg) F.heap := by
    refine ⟨by rw [f1, hsz]; show _ = nB g.1 + (h.1 + 1 + i1.toNatClampNeg); omega, fun q hq => ?_⟩
    have hq' : q < h.1 + 1 + i1.toNatClampNeg := hq
    by_cases c1 : q < h.1
    · refine (hP.2 q c1).kept ?_ (fun j => ?_) (fun j => ?_) (fun j => ?_) (hold _ (by omega))
      · show (if q = h.1 then _ else if h.1 < q ∧ q < h.1 + 1 + _ then _ else _) = _
        rw [if_neg (by omega), if_neg (by omega)]; rfl
      · show (if h.1 ≤ q ∧ q < h.1 + 1 + _ then (0 : Int32) else _) = _
        rw [if_neg (by omega)]; rfl
      · show (if q = h.1 then (if j < i1.toNatClampNeg then some (h.1 + 1 + j) else none) else if h.1 < q ∧ q < h.1 + 1 + _ then none else _) = _
        rw [if_neg (by omega), if_neg (by omega)]; rfl
      · show (if h.1 ≤ q ∧ q < h.1 + 1 + _ then (0 : Int64) else _) = _
        rw [if_neg (by omega)]; rfl
    · by_cases c2 : q = h.1
      · have ek : hK (newM h i1.toNatClampNeg i2.toNatClampNeg) q = (13, i1.toNatClampNeg) := by
          show (if q = h.1 then _ else _) = _
          rw [if_pos c2]
        refine (cellAt.row (by rw [ek])).mpr ?_
        rw [ek, c2, ← hsz, f2]
        refine congrArg some (congrArg (arrV _ _) (funext fun z => ?_))
        show _ = rl _ (if h.1 = h.1 then (if z < i1.toNatClampNeg then some (h.1 + 1 + z) else none) else _)
        rw [if_pos rfl]
      · have ek : hK (newM h i1.toNatClampNeg i2.toNatClampNeg) q = (11, i2.toNatClampNeg) := by
          show (if q = h.1 then _ else if h.1 < q ∧ q < h.1 + 1 + _ then _ else _) = _
          rw [if_neg c2, if_pos (by omega)]
        refine (cellAt.int (by rw [ek])).mpr ?_
        have hr := hrow (q - h.1 - 1) (by omega)
        rw [ek, show nB g.1 + q = H.size + 1 + (q - h.1 - 1) by omega, hr]
        refine congrArg some ?_
        show ({ cls := nA g.1 0, slots := Array.replicate i2.toNatClampNeg (defaultValue FieldType.int), vm := .none } : Cell) = _
        rw [arrV_new]
        refine congrArg (arrV _ _) (funext fun z => ?_)
        show _ = Value.int (if h.1 ≤ q ∧ q < h.1 + 1 + _ then (0 : Int32) else _)
        rw [if_pos (by omega)]
        rfl
  obtain ⟨t, a1, b1⟩ := kk ho ls F.heap locs hl hRep (S_grow hS (by rw [f1]; omega) hold) F rfl X'
  refine ⟨t, step t ?_, b1⟩
  have e : Ts.heap.size = nB g.1 + h.1 := by rw [hT]; exact hsz
  rw [e]
  exact a1
theorem acpy_some {b : Nat} {sp dp m : Int32} {h' : Hp} (e : acpy h a sp b dp m = some h') : ((a < hN h ∧ (hK h a).1 = 11) ∧ (b < hN h ∧ (hK h b).1 = 11) ∧ 0 ≤ sp.toInt ∧ 0 ≤ dp.toInt ∧ 0 ≤ m.toInt ∧ sp.toInt + m.toInt ≤ ((hK h a).2 : Int) ∧ dp.toInt + m.toInt ≤ ((hK h b).2 : Int)) ∧ h' = setA h b (va_cpy (hI h a) (hI h b) sp.toInt.toNat dp.toInt.toNat m.toInt.toNat) := by
  unfold acpy at e
  split at e
  · next q => exact ⟨q, (Option.some.inj e).symm⟩
  · cases e
theorem X_acpy (hg : XG g own cc nL fr lo mc ms) {b : Nat} {sp dp m : Int32} (hm : Cond.methodLink own idx arraycopyName ∈ lw_tbl) (hm2 : Cond.native arraycopyName ∈ lw_tbl) (hm3 : Cond.static arraycopyName ∈ lw_tbl) (hm4 : Cond.initialized "java/lang/System" ∈ lw_tbl) (hfr : 1 ≤ fr) (hlo : (st.map fun v => v.category).sum + (nativeFrameWords "java/lang/System" "arraycopy" 5 + 11) ≤ lo) (d : decode cc pc = .ok (.invokestatic idx, 3)) {K : Hp → Option α}
    (kk : ∀ h', acpy h a sp b dp m = some h' → Xo g x0 nL k n (pc + 3) lv st h' (K h')) : Xo g x0 nL k n pc lv (.int m :: .int dp :: .ref (nB g.1 + b) :: .int sp :: .ref (nB g.1 + a) :: st) h ((acpy h a sp b dp m).bind K) := X_bd fun h' e ho ls H locs hl hP hS => by
  obtain ⟨⟨q1, q2, z1, z2, z3, z4, z5⟩, e2⟩ := acpy_some e
  have hRm := hg.2.2.2.2.2.2
  have nn : ∀ z : Int32, 0 ≤ z.toInt → z.toInt = (z.toNatClampNeg : Int) := fun z hz => by
    show z.toInt = ((z.toInt.toNat : Nat) : Int)
    omega
  have nl : ∀ z : Int32, 0 ≤ z.toInt → ¬ z < 0 := fun z hz y => by have := Int32.lt_iff_toInt_lt.mp y; simp at this; omega
  have hc0 := (cellAt.int q1.2).mp (hP.2 a q1.1)
  have hc1 := (cellAt.int q2.2).mp (hP.2 b q2.1)
  obtain ⟨-, k0, hk0, cm0, hkk0⟩ := (hg.2.2.2.2.1.2.1.2 0 _ rfl).1 0 (fun _ => .null)
  intro Ts hT Xs
  obtain ⟨vm', X', step⟩ := Xs.arraycopy hg.1 hg.2.2.2.1 (hg.w hm rfl) (hg.w hm2 rfl) (hg.w hm3 rfl) (hg.w hm4 rfl) (src := nB g.1 + a) (dst := nB g.1 + b) (cs := arrV (nA g.1 0) (hK h a).2 (fun j => .int (hI h a j))) (cd := arrV (nA g.1 0) (hK h b).2 (fun j => .int (hI h b j))) (srcPos := sp) (destPos := dp) (n := m) (by rw [hT]; exact hc0) (by rw [hT]; exact hc1)
    (fun _ h => by cases h) (fun _ h => by cases h) (fun h => by cases h) (fun h => by cases h) hk0 hk0 hkk0 hkk0 (by simp) (nl sp z1) (nl dp z2) (nl m z3)
    (by rw [nn sp z1, nn m z3, arrV_size]; have := nn sp z1; have := nn m z3; omega)
    (by rw [nn dp z2, nn m z3, arrV_size]; have := nn dp z2; have := nn m z3; omega)
    (fun vm₁ _ i hi => by
      have e : (arrV (nA g.1 0) (hK h a).2 (fun j => Value.int (hI h a j))).slots.getD (sp.toNatClampNeg + i) .null = .int (hI h a (sp.toNatClampNeg + i)) := by
        have h9 := nn sp z1
        have h8 := nn m z3
        rw [Array.getD_eq_getD_getElem?, arrV_read _ _ (by omega)]
        rfl
      refine ⟨?_, ?_⟩
      · rw [e]
        rfl
      · rw [e]
        exact trivial)
    (g := F0 _ pc ls (.int m :: .int dp :: .ref (nB g.1 + b) :: .int sp :: .ref (nB g.1 + a) :: st)) rfl (by rw [hl.1, hg.2.2.1]) (rest := st) rfl (by rw [hg.2.1]; exact d) (by rw [hRm]; exact hfr) (by rw [hRm]; show 2 * 0 + _ + _ ≤ lo; have := hlo; omega)
  have e1 : copied (arrV (nA g.1 0) (hK h a).2 (fun j => Value.int (hI h a j))) (arrV (nA g.1 0) (hK h b).2 (fun j => Value.int (hI h b j))) sp dp m = arrV (nA g.1 0) (hK h b).2 (fun j => Value.int (va_cpy (hI h a) (hI h b) sp.toNatClampNeg dp.toNatClampNeg m.toNatClampNeg j)) := va_copied (fun z => Value.int z) (nA g.1 0) (nA g.1 0) (hI h a) (hI h b) (by have := nn sp z1; have := nn m z3; omega)
  rw [e1] at X' step
  have hlt : nB g.1 + b < H.size := (Array.getElem?_eq_some_iff.mp hc1).1
  generalize hcell : arrV (nA g.1 0) (hK h b).2 (fun j => Value.int (va_cpy (hI h a) (hI h b) sp.toNatClampNeg dp.toNatClampNeg m.toNatClampNeg j)) = cl at X' step
  have hheap : ((Ts.setVm vm').setCell (nB g.1 + b) cl).heap = H.setIfInBounds (nB g.1 + b) cl := by rw [← hT]; rfl
  have oq : ∀ q : Nat, q ≠ nB g.1 + b → (H.setIfInBounds (nB g.1 + b) cl)[q]? = H[q]? := fun q hq => by simp [Array.getElem?_setIfInBounds, Ne.symm hq]
  have hself : (H.setIfInBounds (nB g.1 + b) cl)[nB g.1 + b]? = some cl := by simp [Array.getElem?_setIfInBounds, hlt]
  have hRep : Rep g.1 h' (H.setIfInBounds (nB g.1 + b) cl) := by
    rw [e2]
    refine hP.setA (by simp) oq ((cellAt.int (h := setA h b _) q2.2).mpr ?_)
    rw [hself, ← hcell]
    refine congrArg some (congrArg (arrV _ _) (funext fun z => ?_))
    show _ = Value.int (nr _ _ _ _ _)
    simp [nr]
  obtain ⟨t, a1, b1⟩ := kk h' e ho ls _ _ hl hRep ⟨by simp; exact hS.1, fun q g1 g2 => by
      rw [oq q (fun e => g2 (by rw [e]; exact Nat.le_add_right _ _))]
      exact hS.2.1 q g1 g2, fun q hq => by
      rcases List.mem_append.mp hq with h | h
      · exact hS.2.2 q h
      · obtain ⟨z, -, hz⟩ := List.mem_map.mp h
        rw [← hz]
        exact Nat.le_add_right _ _⟩ _ hheap X'
  exact ⟨t, step t a1, b1⟩

theorem X_max (hg : XG g own cc nL fr lo mc ms) {x y : Int32} (hm : Cond.methodLink own idx Lib.Math.max.name ∈ lw_tbl) (hm2 : Cond.static Lib.Math.max.name ∈ lw_tbl) (hm3 : Cond.initialized "java/lang/Math" ∈ lw_tbl) (hm4 : Cond.code Lib.Math.max.name Lib.Math.max.code 2 (some .int) ∈ lw_tbl) (hfr : 1 ≤ fr) (hlo : (st.map fun v => v.category).sum + 13 ≤ lo) (hk1 : k ≤ mc) (hn1 : n ≤ ms) (d : decode cc pc = .ok (.invokestatic idx, 3)) {o : Option α}
    (kk : Xo g x0 nL k n (pc + 3) lv (.int (imx x y) :: st) h o) : Xo g x0 nL k n pc lv (.int y :: .int x :: st) h o := fun ho ls H locs hl hP hS => by
  have hRm := hg.2.2.2.2.2.2
  exact va_mmax hg.1 hg.2.1 (by rw [hg.2.2.1, hl.1]) hg.2.2.2.1 (hg.w hm rfl) (hg.w hm2 rfl) (hg.w hm3 rfl) (hg.w hm4 rfl) (by rw [hRm]; exact hfr) (by rw [hRm]; exact hlo) (by rw [hRm]; exact hk1) (by rw [hRm]; exact hn1) d (kk ho ls H locs hl hP hS)
theorem X_min (hg : XG g own cc nL fr lo mc ms) {x y : Int32} (hm : Cond.methodLink own idx Lib.Math.min.name ∈ lw_tbl) (hm2 : Cond.static Lib.Math.min.name ∈ lw_tbl) (hm3 : Cond.initialized "java/lang/Math" ∈ lw_tbl) (hm4 : Cond.code Lib.Math.min.name Lib.Math.min.code 2 (some .int) ∈ lw_tbl) (hfr : 1 ≤ fr) (hlo : (st.map fun v => v.category).sum + 13 ≤ lo) (hk1 : k ≤ mc) (hn1 : n ≤ ms) (d : decode cc pc = .ok (.invokestatic idx, 3)) {o : Option α}
    (kk : Xo g x0 nL k n (pc + 3) lv (.int (imn x y) :: st) h o) : Xo g x0 nL k n pc lv (.int y :: .int x :: st) h o := fun ho ls H locs hl hP hS => by
  have hRm := hg.2.2.2.2.2.2
  exact va_mmin hg.1 hg.2.1 (by rw [hg.2.2.1, hl.1]) hg.2.2.2.1 (hg.w hm rfl) (hg.w hm2 rfl) (hg.w hm3 rfl) (hg.w hm4 rfl) (by rw [hRm]; exact hfr) (by rw [hRm]; exact hlo) (by rw [hRm]; exact hk1) (by rw [hRm]; exact hn1) d (kk ho ls H locs hl hP hS)
theorem X_obji (hg : XG g own cc nL fr lo mc ms) {v : Nat} (hm : Cond.methodLink own idx objectInit ∈ lw_tbl) (hm2 : Cond.instanceMethod objectInit ∈ lw_tbl) (hm3 : Cond.code objectInit ⟨#[0xb1]⟩ 1 none ∈ lw_tbl) (hfr : 1 ≤ fr) (hlo : (st.map fun v => v.category).sum + 12 ≤ lo) (d : decode cc pc = .ok (.invokespecial idx, 3)) {o : Option α}
    (kk : Xo g x0 nL k n (pc + 3) lv st h o) : Xo g x0 nL k n pc lv (.ref v :: st) h o := fun ho ls H locs hl hP hS => by
  have hRm := hg.2.2.2.2.2.2
  exact W.objInit hg.1 hg.2.1 hg.2.2.2.1 (hg.w hm rfl) (hg.w hm2 rfl) (hg.w hm3 rfl) rfl (by rw [hg.2.2.1]; exact hl.1) rfl d (by rw [hRm]; exact hfr) (by rw [hRm]; show 2 * 0 + _ + 12 ≤ lo; omega) (kk ho ls H locs hl hP hS)
/-- the first keypad's clone: getstatic, clone(), checkcast -/
theorem X_keypad (hg : XG g own cc nL fr lo mc ms) {i1 i2 i3 : Nat} {host : String} (hm1 : Cond.fieldLinkNest own i1 "DialMenus" "FIRST_KEYPAD" "[I" host ∈ lw_tbl) (hm2 : Cond.methodLink own i2 ⟨"[I", "clone", "()Ljava/lang/Object;"⟩ ∈ lw_tbl) (hm3 : Cond.sameMethod "[I" "java/lang/Object" "clone" "()Ljava/lang/Object;" ∈ lw_tbl) (hm4 : Cond.native ⟨"java/lang/Object", "clone", "()Ljava/lang/Object;"⟩ ∈ lw_tbl) (hm5 : Cond.instanceMethod ⟨"java/lang/Object", "clone", "()Ljava/lang/Object;"⟩ ∈ lw_tbl)
    (hm6 : Cond.selects "[I" ⟨"[I", "clone", "()Ljava/lang/Object;"⟩ ⟨"java/lang/Object", "clone", "()Ljava/lang/Object;"⟩ ∈ lw_tbl) (hm7 : Cond.castable "[I" "java/lang/Cloneable" ∈ lw_tbl) (hm8 : Cond.classLink own i3 "[I" ∈ lw_tbl) (hfr : 1 ≤ fr) (hlo : (st.map fun v => v.category).sum + 14 ≤ lo) (hk1 : k + 1 ≤ mc) (hn1 : n + 26 ≤ ms) (d1 : decode cc pc = .ok (.getstatic i1, 3)) (d2 : decode cc (pc + 3) = .ok (.invokevirtual i2, 3)) (d3 : decode cc (pc + 3 + 3) = .ok (.checkcast i3, 3)) {o : Option α}
    (kk : Xo g x0 nL (k + 1) (n + 26) (pc + 3 + 3 + 3) lv (.ref (nB g.1 + h.1) :: st) (newC h 11 26 kpf) o) : Xo g x0 nL k n pc lv st h o := fun ho ls H locs hl hP hS => by
  have hRm := hg.2.2.2.2.2.2
  have hE := hg.2.2.2.2.1
  refine va_getsN hg.1 hg.2.1 hE.2.2.1 hS hg.2.2.2.1 (hg.w hm1 rfl) (fun _ h => h) d1 ?_
  obtain ⟨hlt, cell, k1, k2, k3, k4, k5⟩ := hE.2.2.2
  have hcell : H[nK g.1]? = some cell := by rw [hS.2.1 _ (Nat.lt_of_lt_of_le hlt hg.2.2.2.2.2.1) (by simp; exact hlt)]; exact k1
  have hnm : g.2.2.2.2.1.vm.findClass "[I" = some (nA g.1 0) := va_nm_int (hE.2.1.2 0 _ rfl).2
  obtain ⟨c0, t0', f1, f2, f3⟩ := Cond.castable_spec (hg.w hm7 rfl (A := g.2.2.2.2.2.2.1))
  cases hnm.symm.trans f1
  have hsz : cell.slots.size = 26 := by rw [k5, arrV_size]
  have hnew : ({ cls := cell.cls, slots := cell.slots } : Cell) = arrV (nA g.1 0) 26 (fun j => .int (kpf j)) := by rw [k4, k5]; rfl
  intro Ts hT Xs
  obtain ⟨-, kA, hkA, comp, hkind⟩ := State.isArrayOf_alike Xs.warmed.alike ((hE.2.1.2 0 _ rfl).1 0 (fun _ => .null))
  obtain ⟨-, kS, hkS, compS, hkindS⟩ := (hE.2.1.2 0 _ rfl).1 0 (fun _ => .null)
  obtain ⟨vm', X', stp⟩ := Xs.cloneArray hg.1 hg.2.2.2.1 (hg.w hm2 rfl) (hg.w hm3 rfl) (hg.w hm4 rfl) (hg.w hm5 rfl) (hg.w hm6 rfl) (a := nK g.1) (cell := cell) (by rw [hT]; exact hcell) k2 k3 (by rw [k4]; exact hnm) f2 (by rw [k4]; exact f3)
    (fun i v hv => by
      have hk' : Ts.vm.classes[nA g.1 0]? = some kA := hkA
      have hi : i < 26 := by rw [← hsz]; exact (Array.getElem?_eq_some_iff.mp hv).1
      have hv2 : v = .int (kpf i) := by rw [k5, arrV_read _ _ hi] at hv; exact (Option.some.inj hv).symm
      rw [k4, hv2]
      have hvm : cell.vm.isStatics = false := by cases hc : cell.vm <;> first | rfl | exact absurd hc (k2 _)
      cases hc : cell.vm <;> first | exact absurd hc (k2 _) | exact absurd hc k3 | simp [State.fitsSlot, State.slotType?, hk', hkind, fits])
    (g := F0 _ (pc + 3) ls (.ref (nK g.1) :: st)) rfl (by rw [hl.1, hg.2.2.1]) rfl (by rw [hg.2.1]; exact d2) (by rw [hRm]; exact hfr) (by rw [hRm]; show 2 * 0 + _ + 14 ≤ lo; omega) (by rw [hRm]; exact hk1) (by rw [hsz, hRm]; exact hn1) (hloader := by rw [k4]; exact Vm.clonesLoader_of_array hkS hkindS)
  rw [hnew, hsz] at X'
  rw [hnew] at stp
  generalize hcl : arrV (nA g.1 0) 26 (fun j => Value.int (kpf j)) = cl at X' stp
  have z1 : (H.push cl).size = H.size + 1 := Array.size_push ..
  have e1 : (H.push cl)[nB g.1 + hN h]? = some cl := by rw [← hP.1, Array.getElem?_push_size]
  have o1 : ∀ q : Nat, q < H.size → (H.push cl)[q]? = H[q]? := fun q hq => by rw [Array.getElem?_push, if_neg (Nat.ne_of_lt hq)]
  have hRep : Rep g.1 (newC h 11 26 kpf) (H.push cl) := hP.newC z1 o1 (cellAt_newI rfl (by rw [e1, hcl]))
  have K1 := kk ho ls (H.push cl) locs hl hRep (S_grow hS (by omega) o1)
  have K2 : W g.2.1 g.1.1 g.2.2.1 g.2.2.2.1 g.2.2.2.2.1 g.2.2.2.2.2.1 g.2.2.2.2.2.2.1 g.2.2.2.2.2.2.2.1 g.2.2.2.2.2.2.2.2.1 g.2.2.2.2.2.2.2.2.2.1 (H.push cl) locs (k + 1) (n + 26) g.2.2.2.2.2.2.2.2.2.2 (F0 g.2.2.2.2.2.1 (pc + 3 + 3) ls (.ref (nB g.1 + hN h) :: st)) :=
    va_castA (D := (nC g.1, nI_ g.1)) (cl := vwCl) (ws := [(nB g.1 + hN h, .inl (nA g.1 0, 26, .inl kpf))]) hg.1 hg.2.1 hg.2.2.2.1 (hg.w hm8 rfl) (fun q x hx => by
      have h0 : q < 1 := (List.getElem?_eq_some_iff.mp hx).1
      rw [show q = 0 by omega] at hx
      cases hx
      show (H.push cl)[nB g.1 + hN h]? = some (vp_cell _ _)
      rw [vp_cell_i, hcl, e1]) 0 rfl hnm d3 K1
  obtain ⟨t, b1, b2⟩ := K2 ((Ts.setVm vm').pushCell cl) (by rw [← hT]; rfl) X'
  refine ⟨t, stp t ?_, b2⟩
  have e9 : Ts.heap.size = nB g.1 + hN h := by rw [hT]; exact hP.1
  rw [e9]
  exact b1
end
end
section
/-! CONTRACTS, RETURNS, CALLS -/
/-- the contract of a method at these arguments and this heap: its answer, its heap -/
def Ct (en : EN) (y : MethodName) (bytes : ByteArray) (maxL : Nat) (ret : Option FieldType) (fr lo mc ms : Nat) (As : List Value) (h : Hp) (r0 : Option Value) (h0 : Hp) : Prop :=
  Met en.1 y [Cond.code y bytes maxL ret] { frames := fr, cells := mc, slots := ms, locals := lo } (va_Pc As (fun U => Env0 en U U.heap ∧ Rep en h U.heap)) (QcM en r0 h0) mc ms (fun q => nB en ≤ q)
theorem Ct.of {α : Type} {x0 : α} {o : Option α} {en : EN} {y : MethodName} {bytes : ByteArray} {maxL : Nat} {ret : Option FieldType} {fr lo mc ms : Nat} {As : List Value} {h : Hp} {r0 : Option Value} {h0 : Hp} {lv : List (Nat × Value)} (hy : plainName y.cls = true) (hlv : lv_args 0 As = lv) (hlen : (lg_sl As).length ≤ maxL) (ho : o = some x0)
    (body : ∀ g : XC, g.1 = en → XG g y.cls bytes maxL fr lo mc ms → XR g ret y.name r0 h0 mc ms → Xo g x0 maxL 0 0 0 lv [] h o) : Ct en y bytes maxL ret fr lo mc ms As h r0 h0 := by
  refine Met.ofW (cc := bytes) (maxL := maxL) (ret := ret) hy rfl ?_
  intro p e s m args below meth c s₁ B hml hv
  obtain ⟨rfl, hE, hP⟩ := hv
  have hl := lv_entry As (n := maxL) hlen
  rw [hlv] at hl
  rw [lg_entry_eq]
  exact body (en, p, e, _, s, m, As.toArray, below, meth, c, _) rfl ⟨B.exec, B.bytes, hml, findClass_of_methodNamed B.named, hE, by rw [hP.1]; exact Nat.le_add_right _ _, rfl⟩ ⟨B.returns, B.notSynchronized, (name_of_methodNamed B.named B.method).1, rfl⟩ ho _ _ _ hl hP va_S.rf
section
variable {α : Type} {g : XC} {x0 : α} {own : String} {cc : ByteArray} {nL fr lo mc ms k n pc : Nat} {lv lv' : List (Nat × Value)} {st : List Value} {h : Hp} {c a j idx : Nat} {C : String} {T : u_T} {N : Nat} {nm : String} {r0 : Option Value} {h0 : Hp}
theorem rl_or (b : Nat) (r : Option Nat) : rl b r = .null ∨ ∃ a, rl b r = .ref a := by
  cases r with
  | none => exact Or.inl rfl
  | some a => exact Or.inr ⟨_, rfl⟩
theorem nar_b {v : Int32} (e : v = 0 ∨ v = 1) : narrow .boolean (.int v) = .int v := by rcases e with rfl | rfl <;> rfl
theorem qcm {H : Heap} {locs : List Loc} {v : Option Value} (e1 : v = r0) (e2 : h = h0) (hP : Rep g.1 h H) (hS : va_S (fun q => nB g.1 ≤ q) g.2.2.2.2.1.heap H locs) : ∀ t : State, t.heap = H → g.2.2.2.2.1.WarmedH t.vm → QcM g.1 r0 h0 g.2.2.2.2.2.2.1 g.2.2.2.2.1 (.returned v) t :=
  fun t ht _ => ⟨by rw [e1], by rw [ht, ← e2]; exact hP, hS.F ht⟩
theorem X_iret (hg : XG g own cc nL fr lo mc ms) {x0 : Int32} {v : Int32} (hr : XR g (some .int) nm (some (.int x0)) (h) mc ms) (hk : k ≤ mc) (hn : n ≤ ms) (d : decode cc pc = .ok (.ireturn, 1)) : Xo g x0 nL k n pc lv [.int v] h (some v) := fun ho ls H locs hl hP hS => by
  have hlocks := hr.2.1
  cases ho
  refine W.widen hk hn ?_
  rw [hr.2.2.2]
  exact W.iret hg.1 hg.2.1 hr.1 (qcm (g := g) rfl rfl hP hS) hS.2.2 d
theorem X_iretW (hg : XG g own cc nL fr lo mc ms) {x0 : Int32 × Hp} {v : Int32} (hr : XR g (some .int) nm (some (.int x0.1)) (x0.2) mc ms) (hk : k ≤ mc) (hn : n ≤ ms) (d : decode cc pc = .ok (.ireturn, 1)) : Xo g x0 nL k n pc lv [.int v] h (some (v, h)) := fun ho ls H locs hl hP hS => by
  have hlocks := hr.2.1
  cases ho
  refine W.widen hk hn ?_
  rw [hr.2.2.2]
  exact W.iret hg.1 hg.2.1 hr.1 (qcm (g := g) rfl rfl hP hS) hS.2.2 d
theorem X_lret (hg : XG g own cc nL fr lo mc ms) {x0 : Int64} {v : Int64} (hr : XR g (some .long) nm (some (.long x0)) (h) mc ms) (hk : k ≤ mc) (hn : n ≤ ms) (d : decode cc pc = .ok (.lreturn, 1)) : Xo g x0 nL k n pc lv [.long v] h (some v) := fun ho ls H locs hl hP hS => by
  have hlocks := hr.2.1
  cases ho
  refine W.widen hk hn ?_
  rw [hr.2.2.2]
  exact W.lret hg.1 hg.2.1 hr.1 (qcm (g := g) rfl rfl hP hS) hS.2.2 d
theorem X_lretW (hg : XG g own cc nL fr lo mc ms) {x0 : Int64 × Hp} {v : Int64} (hr : XR g (some .long) nm (some (.long x0.1)) (x0.2) mc ms) (hk : k ≤ mc) (hn : n ≤ ms) (d : decode cc pc = .ok (.lreturn, 1)) : Xo g x0 nL k n pc lv [.long v] h (some (v, h)) := fun ho ls H locs hl hP hS => by
  have hlocks := hr.2.1
  cases ho
  refine W.widen hk hn ?_
  rw [hr.2.2.2]
  exact W.lret hg.1 hg.2.1 hr.1 (qcm (g := g) rfl rfl hP hS) hS.2.2 d
theorem X_vret (hg : XG g own cc nL fr lo mc ms) {x0 : Hp}  (hr : XR g (none) nm (none) (x0) mc ms) (hk : k ≤ mc) (hn : n ≤ ms) (d : decode cc pc = .ok (.return_, 1)) : Xo g x0 nL k n pc lv [] h (some h) := fun ho ls H locs hl hP hS => by
  have hlocks := hr.2.1
  cases ho
  refine W.widen hk hn ?_
  rw [hr.2.2.2]
  exact W.vret hg.1 hg.2.1 hr.1 (qcm (g := g) rfl rfl hP hS) hS.2.2 d
theorem X_aret (hg : XG g own cc nL fr lo mc ms) {x0 : Nat} {v : Nat} {rt : FieldType} (hrt : (∃ n, rt = .object n) ∨ ∃ t, rt = .array t) (hr : XR g (some rt) nm (some (.ref (nB g.1 + x0))) (h) mc ms) (hk : k ≤ mc) (hn : n ≤ ms) (d : decode cc pc = .ok (.areturn, 1)) : Xo g x0 nL k n pc lv [.ref (nB g.1 + v)] h (some v) := fun ho ls H locs hl hP hS => by
  have hlocks := hr.2.1
  cases ho
  refine W.widen hk hn ?_
  rw [hr.2.2.2]
  exact W.aret hg.1 hg.2.1 hr.1 hrt (Or.inr ⟨_, rfl⟩) (qcm (g := g) rfl rfl hP hS) hS.2.2 d
theorem X_aretW (hg : XG g own cc nL fr lo mc ms) {x0 : Nat × Hp} {v : Nat} {rt : FieldType} (hrt : (∃ n, rt = .object n) ∨ ∃ t, rt = .array t) (hr : XR g (some rt) nm (some (.ref (nB g.1 + x0.1))) (x0.2) mc ms) (hk : k ≤ mc) (hn : n ≤ ms) (d : decode cc pc = .ok (.areturn, 1)) : Xo g x0 nL k n pc lv [.ref (nB g.1 + v)] h (some (v, h)) := fun ho ls H locs hl hP hS => by
  have hlocks := hr.2.1
  cases ho
  refine W.widen hk hn ?_
  rw [hr.2.2.2]
  exact W.aret hg.1 hg.2.1 hr.1 hrt (Or.inr ⟨_, rfl⟩) (qcm (g := g) rfl rfl hP hS) hS.2.2 d
theorem X_qret (hg : XG g own cc nL fr lo mc ms) {x0 : Option Nat} {v : Option Nat} {rt : FieldType} (hrt : (∃ n, rt = .object n) ∨ ∃ t, rt = .array t) (hr : XR g (some rt) nm (some (rl (nB g.1) x0)) (h) mc ms) (hk : k ≤ mc) (hn : n ≤ ms) (d : decode cc pc = .ok (.areturn, 1)) : Xo g x0 nL k n pc lv [rl (nB g.1) v] h (some v) := fun ho ls H locs hl hP hS => by
  have hlocks := hr.2.1
  cases ho
  refine W.widen hk hn ?_
  rw [hr.2.2.2]
  exact W.aret hg.1 hg.2.1 hr.1 hrt (rl_or _ _) (qcm (g := g) rfl rfl hP hS) hS.2.2 d
theorem rz_some {v x : Int32} (e : rz v = some x) : x = v ∧ (v = 0 ∨ v = 1) := by
  unfold rz at e
  split at e
  · next q => exact ⟨(Option.some.inj e).symm, q⟩
  · cases e
theorem X_zret (hg : XG g own cc nL fr lo mc ms) {x0 : Int32} {v : Int32} (hr : XR g (some .boolean) nm (some (.int x0)) h mc ms) (hk : k ≤ mc) (hn : n ≤ ms) (d : decode cc pc = .ok (.ireturn, 1)) : Xo g x0 nL k n pc lv [.int v] h ((rz v).bind fun r => some r) := X_bd fun x e ho ls H locs hl hP hS => by
  have hlocks := hr.2.1
  obtain ⟨e1, e2⟩ := rz_some e
  cases ho
  refine W.widen hk hn ?_
  rw [hr.2.2.2]
  subst e1
  exact W.zret (ty := .boolean) hg.1 hg.2.1 hr.1 (nar_b e2) (qcm (g := g) rfl rfl hP hS) hS.2.2 d
theorem X_zretW (hg : XG g own cc nL fr lo mc ms) {x0 : Int32 × Hp} {v : Int32} (hr : XR g (some .boolean) nm (some (.int x0.1)) x0.2 mc ms) (hk : k ≤ mc) (hn : n ≤ ms) (d : decode cc pc = .ok (.ireturn, 1)) : Xo g x0 nL k n pc lv [.int v] h ((rz v).bind fun r => some (r, h)) := X_bd fun x e ho ls H locs hl hP hS => by
  have hlocks := hr.2.1
  obtain ⟨e1, e2⟩ := rz_some e
  cases ho
  refine W.widen hk hn ?_
  rw [hr.2.2.2]
  subst e1
  exact W.zret (ty := .boolean) hg.1 hg.2.1 hr.1 (nar_b e2) (qcm (g := g) rfl rfl hP hS) hS.2.2 d
theorem gd_isO {β : Type} {o : Option β} {x : β} (e : gd h c a o = some x) : a < hN h ∧ (hK h a).1 = c := by
  unfold gd at e
  split at e
  · next q => exact q
  · cases e
theorem X_gd {o : Option α} (kk : Xo g x0 nL k n pc lv st h o) : Xo g x0 nL k n pc lv st h (gd h c a o) := fun ho => by
  unfold gd at ho
  split at ho
  · exact kk ho
  · cases ho
/-- a method that is called: its code, its class -/
def MF (y : MethodName) (bytes : ByteArray) (maxL : Nat) (ret : Option FieldType) (np : Nat) : Prop := Cond.code y bytes maxL ret ∈ lw_tbl ∧ Cond.initialized y.cls ∈ lw_tbl ∧ (y.cls ≠ "java/lang/invoke/MethodHandle" ∧ y.cls ≠ "java/lang/invoke/VarHandle") ∧ (parseMethodDescriptor y.desc).map (fun d => d.parameters.length) = some np
theorem env_warm {en : EN} {s U : State} {H0 : Heap} (hE : Env0 en s s.heap) (hb : nB en ≤ s.heap.size) (hW : s.WarmedH U.vm) {locs : List Loc} (hS : va_S (fun q => nB en ≤ q) s.heap H0 locs) : Env0 en U H0 := by
  refine ⟨fun w hw hk => okW_warm hk hW (hE.1 w hw hk), va_K.moved hW.alike hE.2.1, va_Z.kept (va_Z.moved hW.alike hE.2.2.1) (fun q h1 h2 => hS.2.1 q h1 h2), ?_⟩
  obtain ⟨hlt, cell, k1, k2⟩ := hE.2.2.2
  exact ⟨hlt, cell, by rw [hS.2.1 _ (Nat.lt_of_lt_of_le hlt hb) (by simp; exact hlt)]; exact k1, k2⟩
theorem pc_blind {en : EN} {As : List Value} : FrameBlind (va_Pc As (fun U => Env0 en U U.heap ∧ Rep en h U.heap)) := fun a U g mk q => by
  obtain ⟨e, ⟨h1, h2, h3, h4⟩, h5⟩ := q
  exact ⟨e, ⟨fun w hw hk => okW_args (u := U) hk rfl (h1 w hw hk), va_K.moved (u := U) (Vm.Alike.refl U.vm) h2, va_Z.moved (u := U) (Vm.Alike.refl U.vm) h3, h4⟩, h5⟩
theorem X_run {β : Type} {co : Option β} {K : β → Option α} {rv : β → Option Value} {hf : β → Hp} {y : MethodName} {bytes : ByteArray} {maxL : Nat} {ret : Option FieldType} {fr' lo' mc' ms' : Nat} {As st0 : List Value} {x : β} (e : co = some x)
    (hrun : ∀ (H : Heap) (locs : List Loc) (ls : Array Slot), lv_has ls nL lv → Rep g.1 h H → va_S (fun q => nB g.1 ≤ q) g.2.2.2.2.1.heap H locs → va_Run g.2.1 g.1.1 g.2.2.1 g.2.2.2.1 g.2.2.2.2.1 g.2.2.2.2.2.1 g.2.2.2.2.2.2.1 g.2.2.2.2.2.2.2.1 g.2.2.2.2.2.2.2.2.1 g.2.2.2.2.2.2.2.2.2.1 H locs k n mc' ms' (F0 g.2.2.2.2.2.1 pc ls st0) st (QcM g.1 (rv x) (hf x) As.toArray) (fun q => nB g.1 ≤ q))
    (kk : Xo g x0 nL (k + mc') (n + ms') (pc + 3) lv ((rv x).toList ++ st) (hf x) (K x)) : Xo g x0 nL k n pc lv st0 h (co.bind K) := fun ho ls H locs hl hP hS Ts hT Xs => by
  rw [e] at ho
  obtain ⟨v, st₀, t, T', L, q0, X', hL, e1, e2, ⟨hv, hP', hF⟩, stp⟩ := hrun H locs ls hl hP hS Ts hT Xs
  cases hv
  have hS' : va_S (fun q => nB g.1 ≤ q) g.2.2.2.2.1.heap t.heap (locs ++ L) := by
    refine ⟨Nat.le_trans hS.1 (by rw [← q0]; exact hF.1), fun q h1 h2 => ?_, fun q hq => ?_⟩
    · rw [hF.2 q (by rw [q0]; exact Nat.lt_of_lt_of_le h1 hS.1) h2, q0]
      exact hS.2.1 q h1 h2
    · rcases List.mem_append.mp hq with h | h
      · exact hS.2.2 q h
      · exact hL q h
  obtain ⟨t2, a1, b1⟩ := kk ho ls t.heap (locs ++ L) hl hP' hS' T' e1 X'
  exact ⟨t2, stp t2 a1, b1⟩
theorem X_callV (hg : XG g own cc nL fr lo mc ms) {β : Type} {co : Option β} {K : β → Option α} {rv : β → Option Value} {hf : β → Hp} {y : MethodName} {bytes : ByteArray} {maxL : Nat} {ret : Option FieldType} {fr' lo' mc' ms' np : Nat} {As st0 : List Value} (hy : MF y bytes maxL ret np) (hin : Cond.instanceMethod y ∈ lw_tbl) (hse : Cond.selects y.cls y y ∈ lw_tbl) (hln : Cond.methodLink own idx y ∈ lw_tbl) (hcf : CF c y.cls T N) (hO : ∀ x, co = some x → a < hN h ∧ (hK h a).1 = c) (hct : ∀ x, co = some x → Ct g.1 y bytes maxL ret fr' lo' mc' ms' (.ref (nB g.1 + a) :: As) h (rv x) (hf x)) (hst : st0 = As.reverse ++ .ref (nB g.1 + a) :: st) (hrm : (st.map fun v => v.category).sum ≤ 8) (hnp : As.length = np) (hfr : fr' + 1 ≤ fr) (hlo : 8 + (maxL + 11) + lo' ≤ lo) (hk : k + mc' ≤ mc) (hn : n + ms' ≤ ms) (d : decode cc pc = .ok (.invokevirtual idx, 3))
    (kk : ∀ x, co = some x → Xo g x0 nL (k + mc') (n + ms') (pc + 3) lv ((rv x).toList ++ st) (hf x) (K x)) : Xo g x0 nL k n pc lv st0 h (co.bind K) := X_bd fun x e => by
  have hRm := hg.2.2.2.2.2.2
  refine X_eq (o' := co.bind K) (by rw [e]; rfl) (X_run (y := y) (bytes := bytes) (maxL := maxL) (ret := ret) (fr' := fr') (lo' := lo') (As := .ref (nB g.1 + a) :: As) (rv := rv) (hf := hf) e (fun H locs ls hl hP hS => ?_) (kk x e))
  obtain ⟨cell, q1, q2, q3, q4⟩ := obj_of hP (hO x e) hcf
  exact va_runV (C := y.cls) (n := np) (Ts := []) ⟨hg.1, hg.2.1, hg.2.2.1, hg.2.2.2.1, fun w (hw : w ∈ ([] : List Cond)) => by cases hw⟩ (hct x e) ⟨⟨rfl, rfl, by rw [hRm]; exact hfr, by rw [hRm]; exact hlo, fun w hw a' U hW => by
      rw [List.mem_singleton.mp hw]
      exact word_at hW (Or.inl rfl) (hg.w hy.1 rfl (A := #[])), List.mem_singleton.mpr rfl, hg.w hy.1 rfl, hg.w hy.2.1 rfl, hy.2.2.1, fun sig hs => by have h2 := hy.2.2.2; rw [hs] at h2; exact (Option.some.inj h2).symm, hg.w hln rfl⟩, hg.w hin rfl, hg.w hse rfl⟩ ⟨pc_blind, ⟨cell, q1, by rw [q3]; rfl, by rw [q2]; exact (hg.2.2.2.2.1.2.1.1 c _ hcf.2.1).2.1⟩, fun U hU hW => ⟨rfl, by rw [hU]; exact env_warm hg.2.2.2.2.1 hg.2.2.2.2.2.1 hW hS, by rw [hU]; exact hP⟩⟩ rfl hnp hl.1 hst (lv_room hrm) d (by rw [hRm]; exact ⟨hk, hn⟩)
theorem X_callS (hg : XG g own cc nL fr lo mc ms) {β : Type} {co : Option β} {K : β → Option α} {rv : β → Option Value} {hf : β → Hp} {y : MethodName} {bytes : ByteArray} {maxL : Nat} {ret : Option FieldType} {fr' lo' mc' ms' np : Nat} {As st0 : List Value} (hy : MF y bytes maxL ret np) (hss : Cond.static y ∈ lw_tbl) (hln : Cond.methodLink own idx y ∈ lw_tbl) (hct : ∀ x, co = some x → Ct g.1 y bytes maxL ret fr' lo' mc' ms' (As) h (rv x) (hf x)) (hst : st0 = As.reverse ++ st) (hrm : (st.map fun v => v.category).sum ≤ 8) (hnp : As.length = np) (hfr : fr' + 1 ≤ fr) (hlo : 8 + (maxL + 11) + lo' ≤ lo) (hk : k + mc' ≤ mc) (hn : n + ms' ≤ ms) (d : decode cc pc = .ok (.invokestatic idx, 3))
    (kk : ∀ x, co = some x → Xo g x0 nL (k + mc') (n + ms') (pc + 3) lv ((rv x).toList ++ st) (hf x) (K x)) : Xo g x0 nL k n pc lv st0 h (co.bind K) := X_bd fun x e => by
  have hRm := hg.2.2.2.2.2.2
  refine X_eq (o' := co.bind K) (by rw [e]; rfl) (X_run (y := y) (bytes := bytes) (maxL := maxL) (ret := ret) (fr' := fr') (lo' := lo') (As := As) (rv := rv) (hf := hf) e (fun H locs ls hl hP hS => ?_) (kk x e))
  exact va_runS (n := np) (Ts := []) ⟨hg.1, hg.2.1, hg.2.2.1, hg.2.2.2.1, fun w (hw : w ∈ ([] : List Cond)) => by cases hw⟩ (hct x e) ⟨⟨rfl, rfl, by rw [hRm]; exact hfr, by rw [hRm]; exact hlo, fun w hw a' U hW => by
      rw [List.mem_singleton.mp hw]
      exact word_at hW (Or.inl rfl) (hg.w hy.1 rfl (A := #[])), List.mem_singleton.mpr rfl, hg.w hy.1 rfl, hg.w hy.2.1 rfl, hy.2.2.1, fun sig hs => by have h2 := hy.2.2.2; rw [hs] at h2; exact (Option.some.inj h2).symm, hg.w hln rfl⟩, hg.w hss rfl⟩ ⟨pc_blind, fun U hU hW => ⟨rfl, by rw [hU]; exact env_warm hg.2.2.2.2.1 hg.2.2.2.2.2.1 hW hS, by rw [hU]; exact hP⟩⟩ rfl hnp hl.1 hst (lv_room hrm) d (by rw [hRm]; exact ⟨hk, hn⟩)
theorem X_callI (hg : XG g own cc nL fr lo mc ms) {β : Type} {co : Option β} {K : β → Option α} {rv : β → Option Value} {hf : β → Hp} {y : MethodName} {bytes : ByteArray} {maxL : Nat} {ret : Option FieldType} {fr' lo' mc' ms' np : Nat} {As st0 : List Value} (hy : MF y bytes maxL none np) (hyi : y.name = "<init>") (hret : ret = none) (hin : Cond.instanceMethod y ∈ lw_tbl) (hln : Cond.methodLink own idx y ∈ lw_tbl) (hct : ∀ x, co = some x → Ct g.1 y bytes maxL ret fr' lo' mc' ms' (.ref (nB g.1 + a) :: As) h (rv x) (hf x)) (hst : st0 = As.reverse ++ .ref (nB g.1 + a) :: st) (hrm : (st.map fun v => v.category).sum ≤ 8) (hnp : As.length = np) (hfr : fr' + 1 ≤ fr) (hlo : 8 + (maxL + 11) + lo' ≤ lo) (hk : k + mc' ≤ mc) (hn : n + ms' ≤ ms) (d : decode cc pc = .ok (.invokespecial idx, 3))
    (kk : ∀ x, co = some x → Xo g x0 nL (k + mc') (n + ms') (pc + 3) lv ((rv x).toList ++ st) (hf x) (K x)) : Xo g x0 nL k n pc lv st0 h (co.bind K) := X_bd fun x e => by
  have hRm := hg.2.2.2.2.2.2
  refine X_eq (o' := co.bind K) (by rw [e]; rfl) (X_run (y := y) (bytes := bytes) (maxL := maxL) (ret := ret) (fr' := fr') (lo' := lo') (As := .ref (nB g.1 + a) :: As) (rv := rv) (hf := hf) e (fun H locs ls hl hP hS => ?_) (kk x e))
  subst hret
  exact va_runI (n := np) (Ts := []) ⟨hg.1, hg.2.1, hg.2.2.1, hg.2.2.2.1, fun w (hw : w ∈ ([] : List Cond)) => by cases hw⟩ (hct x e) ⟨⟨rfl, rfl, by rw [hRm]; exact hfr, by rw [hRm]; exact hlo, fun w hw a' U hW => by
      rw [List.mem_singleton.mp hw]
      exact word_at hW (Or.inl rfl) (hg.w hy.1 rfl (A := #[])), List.mem_singleton.mpr rfl, hg.w hy.1 rfl, hg.w hy.2.1 rfl, hy.2.2.1, fun sig hs => by have h2 := hy.2.2.2; rw [hs] at h2; exact (Option.some.inj h2).symm, hg.w hln rfl⟩, hyi, hg.w hin rfl⟩ ⟨pc_blind, fun U hU hW => ⟨rfl, by rw [hU]; exact env_warm hg.2.2.2.2.1 hg.2.2.2.2.2.1 hW hS, by rw [hU]; exact hP⟩⟩ rfl hnp hl.1 hst (lv_room hrm) d (by rw [hRm]; exact ⟨hk, hn⟩)
theorem X_callIN (hg : XG g own cc nL fr lo mc ms) {β : Type} {co : Option β} {K : β → Option α} {rv : β → Option Value} {hf : β → Hp} {y : MethodName} {bytes : ByteArray} {maxL : Nat} {ret : Option FieldType} {fr' lo' mc' ms' np : Nat} {As st0 : List Value} {host : String} (hy : MF y bytes maxL none np) (hyi : y.name = "<init>") (hret : ret = none) (hin : Cond.instanceMethod y ∈ lw_tbl) (hln : Cond.methodLinkNest own idx y host ∈ lw_tbl) (hct : ∀ x, co = some x → Ct g.1 y bytes maxL ret fr' lo' mc' ms' (.ref (nB g.1 + a) :: As) h (rv x) (hf x)) (hst : st0 = As.reverse ++ .ref (nB g.1 + a) :: st) (hrm : (st.map fun v => v.category).sum ≤ 8) (hnp : As.length = np) (hfr : fr' + 1 ≤ fr) (hlo : 8 + (maxL + 11) + lo' ≤ lo) (hk : k + mc' ≤ mc) (hn : n + ms' ≤ ms) (d : decode cc pc = .ok (.invokespecial idx, 3))
    (kk : ∀ x, co = some x → Xo g x0 nL (k + mc') (n + ms') (pc + 3) lv ((rv x).toList ++ st) (hf x) (K x)) : Xo g x0 nL k n pc lv st0 h (co.bind K) := X_bd fun x e => by
  have hRm := hg.2.2.2.2.2.2
  refine X_eq (o' := co.bind K) (by rw [e]; rfl) (X_run (y := y) (bytes := bytes) (maxL := maxL) (ret := ret) (fr' := fr') (lo' := lo') (As := .ref (nB g.1 + a) :: As) (rv := rv) (hf := hf) e (fun H locs ls hl hP hS => ?_) (kk x e))
  subst hret
  exact va_runIN (n := np) (Ts := []) ⟨hg.1, hg.2.1, hg.2.2.1, hg.2.2.2.1, fun w (hw : w ∈ ([] : List Cond)) => by cases hw⟩ (hct x e) ⟨⟨⟨rfl, rfl, by rw [hRm]; exact hfr, by rw [hRm]; exact hlo, fun w hw a' U hW => by
      rw [List.mem_singleton.mp hw]
      exact word_at hW (Or.inl rfl) (hg.w hy.1 rfl (A := #[])), List.mem_singleton.mpr rfl⟩, hg.w hy.1 rfl, hg.w hy.2.1 rfl, hy.2.2.1, fun sig hs => by have h2 := hy.2.2.2; rw [hs] at h2; exact (Option.some.inj h2).symm, hg.w hln rfl⟩, hyi, hg.w hin rfl⟩ ⟨pc_blind, fun U hU hW => ⟨rfl, by rw [hU]; exact env_warm hg.2.2.2.2.1 hg.2.2.2.2.2.1 hW hS, by rw [hU]; exact hP⟩⟩ rfl hnp hl.1 hst (lv_room hrm) d (by rw [hRm]; exact ⟨hk, hn⟩)
end
end
section
def FU : Nat := 256
section
variable {α : Type} {g : XC} {x0 : α} {own : String} {cc : ByteArray} {nL fr lo mc ms k n pc : Nat} {lv lv' : List (Nat × Value)} {st : List Value} {h : Hp} {c a j idx : Nat} {C : String} {T : u_T} {N : Nat}
theorem X_lv (ks : List Nat) (e : lv_pick lv ks = lv') {o : Option α} (kk : Xo g x0 nL k n pc lv' st h o) : Xo g x0 nL k n pc lv st h o := fun ho ls H locs hl hP hS => kk ho ls H locs (lv_sub hl ks e) hP hS
theorem X_nullQ (hg : XG g own cc nL fr lo mc ms) {o : Option α} (d : decode cc pc = .ok (.aconst_null, 1)) (kk : Xo g x0 nL k n (pc + 1) lv (rl (nB g.1) none :: st) h o) : Xo g x0 nL k n pc lv st h o := X_null hg d kk
theorem X_newO (hg : XG g own cc nL fr lo mc ms) (hc : CF c C T N) (hok : ∀ j, j < N → okT (tyC c j) = true) (hm : Cond.classLink own idx C ∈ lw_tbl) (hm2 : Cond.instantiable C N ∈ lw_tbl) (hm3 : Cond.initialized C ∈ lw_tbl) (hk1 : k + 1 ≤ mc) (hn1 : n + N ≤ ms) (d : decode cc pc = .ok (.new idx, 3)) {K : Hp → Option α}
    (kk : ∀ h', newC h c 0 (fun _ => 0) = h' → Xo g x0 nL (k + 1) (n + N) (pc + 3) lv (.ref (nB g.1 + hN h) :: st) h' (K h')) : Xo g x0 nL k n pc lv st h ((some (newC h c 0 (fun _ => 0))).bind K) := X_new hg hc hok hm hm2 hm3 hk1 hn1 d (kk _ rfl)
theorem X_newMB (hg : XG g own cc nL fr lo mc ms) {N K' : Nat} {i1 i2 : Int32} (e1 : i1.toNatClampNeg = N) (e2 : i2.toNatClampNeg = K') (h1 : ¬ i1 < 0) (h2 : ¬ i2 < 0) (hN : N ≤ 10000) (hK' : K' ≤ 10000) (hm : Cond.classLink own idx "[[I" ∈ lw_tbl) (hm2 : Cond.arrayOver (.array .int) ∈ lw_tbl) (hm3 : Cond.arrayClass .int ∈ lw_tbl) (hk1 : k + (1 + N) ≤ mc) (hn1 : n + (N + N * K') ≤ ms) (d : decode cc pc = .ok (.multianewarray idx 2, 4)) {K : Hp → Option α}
    (kk : ∀ h', newM h N K' = h' → Xo g x0 nL (k + 1 + N) (n + N + N * K') (pc + 4) lv (.ref (nB g.1 + h.1) :: st) h' (K h')) : Xo g x0 nL k n pc lv (.int i2 :: .int i1 :: st) h ((some (newM h N K')).bind K) := X_newM hg e1 e2 h1 h2 hN hK' hm hm2 hm3 hk1 hn1 d (kk _ rfl)
theorem X_keypadB (hg : XG g own cc nL fr lo mc ms) {i1 i2 i3 : Nat} {host : String} (hm1 : Cond.fieldLinkNest own i1 "DialMenus" "FIRST_KEYPAD" "[I" host ∈ lw_tbl) (hm2 : Cond.methodLink own i2 ⟨"[I", "clone", "()Ljava/lang/Object;"⟩ ∈ lw_tbl) (hm3 : Cond.sameMethod "[I" "java/lang/Object" "clone" "()Ljava/lang/Object;" ∈ lw_tbl) (hm4 : Cond.native ⟨"java/lang/Object", "clone", "()Ljava/lang/Object;"⟩ ∈ lw_tbl) (hm5 : Cond.instanceMethod ⟨"java/lang/Object", "clone", "()Ljava/lang/Object;"⟩ ∈ lw_tbl)
    (hm6 : Cond.selects "[I" ⟨"[I", "clone", "()Ljava/lang/Object;"⟩ ⟨"java/lang/Object", "clone", "()Ljava/lang/Object;"⟩ ∈ lw_tbl) (hm7 : Cond.castable "[I" "java/lang/Cloneable" ∈ lw_tbl) (hm8 : Cond.classLink own i3 "[I" ∈ lw_tbl) (hfr : 1 ≤ fr) (hlo : (st.map fun v => v.category).sum + 14 ≤ lo) (hk1 : k + 1 ≤ mc) (hn1 : n + 26 ≤ ms) (d1 : decode cc pc = .ok (.getstatic i1, 3)) (d2 : decode cc (pc + 3) = .ok (.invokevirtual i2, 3)) (d3 : decode cc (pc + 3 + 3) = .ok (.checkcast i3, 3)) {K : Hp → Option α}
    (kk : ∀ h', newC h 11 26 kpf = h' → Xo g x0 nL (k + 1) (n + 26) (pc + 3 + 3 + 3) lv (.ref (nB g.1 + h.1) :: st) h' (K h')) : Xo g x0 nL k n pc lv st h ((some (newC h 11 26 kpf)).bind K) := X_keypad hg hm1 hm2 hm3 hm4 hm5 hm6 hm7 hm8 hfr hlo hk1 hn1 d1 d2 d3 (kk _ rfl)
theorem X_cVI0 (hg : XG g own cc nL fr lo mc ms) {co : Option (Int32)} {K : (Int32) → Option α} {y : MethodName} {bytes : ByteArray} {maxL : Nat} {ret : Option FieldType} {fr' lo' np : Nat} {As st0 : List Value} (hy : MF y bytes maxL ret np) (hin : Cond.instanceMethod y ∈ lw_tbl) (hse : Cond.selects y.cls y y ∈ lw_tbl) (hln : Cond.methodLink own idx y ∈ lw_tbl) (hcf : CF c y.cls T N) (hO : ∀ x, co = some x → a < hN h ∧ (hK h a).1 = c) (hct : ∀ x, co = some x → Ct g.1 y bytes maxL ret fr' lo' 0 0 (.ref (nB g.1 + a) :: As) h ((fun x => some (.int x)) x) ((fun _ => h) x)) (hst : st0 = As.reverse ++ .ref (nB g.1 + a) :: st) (hrm : (st.map fun v => v.category).sum ≤ 8) (hnp : As.length = np) (hfr : fr' + 1 ≤ fr) (hlo : 8 + (maxL + 11) + lo' ≤ lo) (hk : k + 0 ≤ mc) (hn : n + 0 ≤ ms) (d : decode cc pc = .ok (.invokevirtual idx, 3)) (kk : ∀ x, co = some x → Xo g x0 nL k n (pc + 3) lv (.int x :: st) h (K x)) : Xo g x0 nL k n pc lv st0 h (co.bind K) := X_callV (rv := fun x => some (.int x)) (hf := fun _ => h) hg hy hin hse hln hcf hO hct hst hrm hnp hfr hlo hk hn d kk
theorem X_cVI (hg : XG g own cc nL fr lo mc ms) {co : Option (Int32)} {K : (Int32) → Option α} {y : MethodName} {bytes : ByteArray} {maxL : Nat} {ret : Option FieldType} {fr' lo' mc' ms' np : Nat} {As st0 : List Value} (hy : MF y bytes maxL ret np) (hin : Cond.instanceMethod y ∈ lw_tbl) (hse : Cond.selects y.cls y y ∈ lw_tbl) (hln : Cond.methodLink own idx y ∈ lw_tbl) (hcf : CF c y.cls T N) (hO : ∀ x, co = some x → a < hN h ∧ (hK h a).1 = c) (hct : ∀ x, co = some x → Ct g.1 y bytes maxL ret fr' lo' mc' ms' (.ref (nB g.1 + a) :: As) h ((fun x => some (.int x)) x) ((fun _ => h) x)) (hst : st0 = As.reverse ++ .ref (nB g.1 + a) :: st) (hrm : (st.map fun v => v.category).sum ≤ 8) (hnp : As.length = np) (hfr : fr' + 1 ≤ fr) (hlo : 8 + (maxL + 11) + lo' ≤ lo) (hk : k + mc' ≤ mc) (hn : n + ms' ≤ ms) (d : decode cc pc = .ok (.invokevirtual idx, 3)) (kk : ∀ x, co = some x → Xo g x0 nL (k + mc') (n + ms') (pc + 3) lv (.int x :: st) h (K x)) : Xo g x0 nL k n pc lv st0 h (co.bind K) := X_callV (rv := fun x => some (.int x)) (hf := fun _ => h) hg hy hin hse hln hcf hO hct hst hrm hnp hfr hlo hk hn d kk
theorem X_cVIW0 (hg : XG g own cc nL fr lo mc ms) {co : Option (Int32 × Hp)} {K : (Int32 × Hp) → Option α} {y : MethodName} {bytes : ByteArray} {maxL : Nat} {ret : Option FieldType} {fr' lo' np : Nat} {As st0 : List Value} (hy : MF y bytes maxL ret np) (hin : Cond.instanceMethod y ∈ lw_tbl) (hse : Cond.selects y.cls y y ∈ lw_tbl) (hln : Cond.methodLink own idx y ∈ lw_tbl) (hcf : CF c y.cls T N) (hO : ∀ x, co = some x → a < hN h ∧ (hK h a).1 = c) (hct : ∀ x, co = some x → Ct g.1 y bytes maxL ret fr' lo' 0 0 (.ref (nB g.1 + a) :: As) h ((fun (x : Int32 × Hp) => some (.int x.1)) x) ((fun (x : Int32 × Hp) => x.2) x)) (hst : st0 = As.reverse ++ .ref (nB g.1 + a) :: st) (hrm : (st.map fun v => v.category).sum ≤ 8) (hnp : As.length = np) (hfr : fr' + 1 ≤ fr) (hlo : 8 + (maxL + 11) + lo' ≤ lo) (hk : k + 0 ≤ mc) (hn : n + 0 ≤ ms) (d : decode cc pc = .ok (.invokevirtual idx, 3)) (kk : ∀ x, co = some x → Xo g x0 nL k n (pc + 3) lv (.int x.1 :: st) x.2 (K x)) : Xo g x0 nL k n pc lv st0 h (co.bind K) := X_callV (rv := fun (x : Int32 × Hp) => some (.int x.1)) (hf := fun (x : Int32 × Hp) => x.2) hg hy hin hse hln hcf hO hct hst hrm hnp hfr hlo hk hn d kk
theorem X_cVIW (hg : XG g own cc nL fr lo mc ms) {co : Option (Int32 × Hp)} {K : (Int32 × Hp) → Option α} {y : MethodName} {bytes : ByteArray} {maxL : Nat} {ret : Option FieldType} {fr' lo' mc' ms' np : Nat} {As st0 : List Value} (hy : MF y bytes maxL ret np) (hin : Cond.instanceMethod y ∈ lw_tbl) (hse : Cond.selects y.cls y y ∈ lw_tbl) (hln : Cond.methodLink own idx y ∈ lw_tbl) (hcf : CF c y.cls T N) (hO : ∀ x, co = some x → a < hN h ∧ (hK h a).1 = c) (hct : ∀ x, co = some x → Ct g.1 y bytes maxL ret fr' lo' mc' ms' (.ref (nB g.1 + a) :: As) h ((fun (x : Int32 × Hp) => some (.int x.1)) x) ((fun (x : Int32 × Hp) => x.2) x)) (hst : st0 = As.reverse ++ .ref (nB g.1 + a) :: st) (hrm : (st.map fun v => v.category).sum ≤ 8) (hnp : As.length = np) (hfr : fr' + 1 ≤ fr) (hlo : 8 + (maxL + 11) + lo' ≤ lo) (hk : k + mc' ≤ mc) (hn : n + ms' ≤ ms) (d : decode cc pc = .ok (.invokevirtual idx, 3)) (kk : ∀ x, co = some x → Xo g x0 nL (k + mc') (n + ms') (pc + 3) lv (.int x.1 :: st) x.2 (K x)) : Xo g x0 nL k n pc lv st0 h (co.bind K) := X_callV (rv := fun (x : Int32 × Hp) => some (.int x.1)) (hf := fun (x : Int32 × Hp) => x.2) hg hy hin hse hln hcf hO hct hst hrm hnp hfr hlo hk hn d kk
theorem X_cVJ0 (hg : XG g own cc nL fr lo mc ms) {co : Option (Int64)} {K : (Int64) → Option α} {y : MethodName} {bytes : ByteArray} {maxL : Nat} {ret : Option FieldType} {fr' lo' np : Nat} {As st0 : List Value} (hy : MF y bytes maxL ret np) (hin : Cond.instanceMethod y ∈ lw_tbl) (hse : Cond.selects y.cls y y ∈ lw_tbl) (hln : Cond.methodLink own idx y ∈ lw_tbl) (hcf : CF c y.cls T N) (hO : ∀ x, co = some x → a < hN h ∧ (hK h a).1 = c) (hct : ∀ x, co = some x → Ct g.1 y bytes maxL ret fr' lo' 0 0 (.ref (nB g.1 + a) :: As) h ((fun x => some (.long x)) x) ((fun _ => h) x)) (hst : st0 = As.reverse ++ .ref (nB g.1 + a) :: st) (hrm : (st.map fun v => v.category).sum ≤ 8) (hnp : As.length = np) (hfr : fr' + 1 ≤ fr) (hlo : 8 + (maxL + 11) + lo' ≤ lo) (hk : k + 0 ≤ mc) (hn : n + 0 ≤ ms) (d : decode cc pc = .ok (.invokevirtual idx, 3)) (kk : ∀ x, co = some x → Xo g x0 nL k n (pc + 3) lv (.long x :: st) h (K x)) : Xo g x0 nL k n pc lv st0 h (co.bind K) := X_callV (rv := fun x => some (.long x)) (hf := fun _ => h) hg hy hin hse hln hcf hO hct hst hrm hnp hfr hlo hk hn d kk
theorem X_cVJ (hg : XG g own cc nL fr lo mc ms) {co : Option (Int64)} {K : (Int64) → Option α} {y : MethodName} {bytes : ByteArray} {maxL : Nat} {ret : Option FieldType} {fr' lo' mc' ms' np : Nat} {As st0 : List Value} (hy : MF y bytes maxL ret np) (hin : Cond.instanceMethod y ∈ lw_tbl) (hse : Cond.selects y.cls y y ∈ lw_tbl) (hln : Cond.methodLink own idx y ∈ lw_tbl) (hcf : CF c y.cls T N) (hO : ∀ x, co = some x → a < hN h ∧ (hK h a).1 = c) (hct : ∀ x, co = some x → Ct g.1 y bytes maxL ret fr' lo' mc' ms' (.ref (nB g.1 + a) :: As) h ((fun x => some (.long x)) x) ((fun _ => h) x)) (hst : st0 = As.reverse ++ .ref (nB g.1 + a) :: st) (hrm : (st.map fun v => v.category).sum ≤ 8) (hnp : As.length = np) (hfr : fr' + 1 ≤ fr) (hlo : 8 + (maxL + 11) + lo' ≤ lo) (hk : k + mc' ≤ mc) (hn : n + ms' ≤ ms) (d : decode cc pc = .ok (.invokevirtual idx, 3)) (kk : ∀ x, co = some x → Xo g x0 nL (k + mc') (n + ms') (pc + 3) lv (.long x :: st) h (K x)) : Xo g x0 nL k n pc lv st0 h (co.bind K) := X_callV (rv := fun x => some (.long x)) (hf := fun _ => h) hg hy hin hse hln hcf hO hct hst hrm hnp hfr hlo hk hn d kk
theorem X_cVJW0 (hg : XG g own cc nL fr lo mc ms) {co : Option (Int64 × Hp)} {K : (Int64 × Hp) → Option α} {y : MethodName} {bytes : ByteArray} {maxL : Nat} {ret : Option FieldType} {fr' lo' np : Nat} {As st0 : List Value} (hy : MF y bytes maxL ret np) (hin : Cond.instanceMethod y ∈ lw_tbl) (hse : Cond.selects y.cls y y ∈ lw_tbl) (hln : Cond.methodLink own idx y ∈ lw_tbl) (hcf : CF c y.cls T N) (hO : ∀ x, co = some x → a < hN h ∧ (hK h a).1 = c) (hct : ∀ x, co = some x → Ct g.1 y bytes maxL ret fr' lo' 0 0 (.ref (nB g.1 + a) :: As) h ((fun (x : Int64 × Hp) => some (.long x.1)) x) ((fun (x : Int64 × Hp) => x.2) x)) (hst : st0 = As.reverse ++ .ref (nB g.1 + a) :: st) (hrm : (st.map fun v => v.category).sum ≤ 8) (hnp : As.length = np) (hfr : fr' + 1 ≤ fr) (hlo : 8 + (maxL + 11) + lo' ≤ lo) (hk : k + 0 ≤ mc) (hn : n + 0 ≤ ms) (d : decode cc pc = .ok (.invokevirtual idx, 3)) (kk : ∀ x, co = some x → Xo g x0 nL k n (pc + 3) lv (.long x.1 :: st) x.2 (K x)) : Xo g x0 nL k n pc lv st0 h (co.bind K) := X_callV (rv := fun (x : Int64 × Hp) => some (.long x.1)) (hf := fun (x : Int64 × Hp) => x.2) hg hy hin hse hln hcf hO hct hst hrm hnp hfr hlo hk hn d kk
theorem X_cVJW (hg : XG g own cc nL fr lo mc ms) {co : Option (Int64 × Hp)} {K : (Int64 × Hp) → Option α} {y : MethodName} {bytes : ByteArray} {maxL : Nat} {ret : Option FieldType} {fr' lo' mc' ms' np : Nat} {As st0 : List Value} (hy : MF y bytes maxL ret np) (hin : Cond.instanceMethod y ∈ lw_tbl) (hse : Cond.selects y.cls y y ∈ lw_tbl) (hln : Cond.methodLink own idx y ∈ lw_tbl) (hcf : CF c y.cls T N) (hO : ∀ x, co = some x → a < hN h ∧ (hK h a).1 = c) (hct : ∀ x, co = some x → Ct g.1 y bytes maxL ret fr' lo' mc' ms' (.ref (nB g.1 + a) :: As) h ((fun (x : Int64 × Hp) => some (.long x.1)) x) ((fun (x : Int64 × Hp) => x.2) x)) (hst : st0 = As.reverse ++ .ref (nB g.1 + a) :: st) (hrm : (st.map fun v => v.category).sum ≤ 8) (hnp : As.length = np) (hfr : fr' + 1 ≤ fr) (hlo : 8 + (maxL + 11) + lo' ≤ lo) (hk : k + mc' ≤ mc) (hn : n + ms' ≤ ms) (d : decode cc pc = .ok (.invokevirtual idx, 3)) (kk : ∀ x, co = some x → Xo g x0 nL (k + mc') (n + ms') (pc + 3) lv (.long x.1 :: st) x.2 (K x)) : Xo g x0 nL k n pc lv st0 h (co.bind K) := X_callV (rv := fun (x : Int64 × Hp) => some (.long x.1)) (hf := fun (x : Int64 × Hp) => x.2) hg hy hin hse hln hcf hO hct hst hrm hnp hfr hlo hk hn d kk
theorem X_cVV0 (hg : XG g own cc nL fr lo mc ms) {co : Option (Hp)} {K : (Hp) → Option α} {y : MethodName} {bytes : ByteArray} {maxL : Nat} {ret : Option FieldType} {fr' lo' np : Nat} {As st0 : List Value} (hy : MF y bytes maxL ret np) (hin : Cond.instanceMethod y ∈ lw_tbl) (hse : Cond.selects y.cls y y ∈ lw_tbl) (hln : Cond.methodLink own idx y ∈ lw_tbl) (hcf : CF c y.cls T N) (hO : ∀ x, co = some x → a < hN h ∧ (hK h a).1 = c) (hct : ∀ x, co = some x → Ct g.1 y bytes maxL ret fr' lo' 0 0 (.ref (nB g.1 + a) :: As) h ((fun (_ : Hp) => none) x) ((fun (x : Hp) => x) x)) (hst : st0 = As.reverse ++ .ref (nB g.1 + a) :: st) (hrm : (st.map fun v => v.category).sum ≤ 8) (hnp : As.length = np) (hfr : fr' + 1 ≤ fr) (hlo : 8 + (maxL + 11) + lo' ≤ lo) (hk : k + 0 ≤ mc) (hn : n + 0 ≤ ms) (d : decode cc pc = .ok (.invokevirtual idx, 3)) (kk : ∀ x, co = some x → Xo g x0 nL k n (pc + 3) lv st x (K x)) : Xo g x0 nL k n pc lv st0 h (co.bind K) := X_callV (rv := fun (_ : Hp) => none) (hf := fun (x : Hp) => x) hg hy hin hse hln hcf hO hct hst hrm hnp hfr hlo hk hn d kk
theorem X_cVV (hg : XG g own cc nL fr lo mc ms) {co : Option (Hp)} {K : (Hp) → Option α} {y : MethodName} {bytes : ByteArray} {maxL : Nat} {ret : Option FieldType} {fr' lo' mc' ms' np : Nat} {As st0 : List Value} (hy : MF y bytes maxL ret np) (hin : Cond.instanceMethod y ∈ lw_tbl) (hse : Cond.selects y.cls y y ∈ lw_tbl) (hln : Cond.methodLink own idx y ∈ lw_tbl) (hcf : CF c y.cls T N) (hO : ∀ x, co = some x → a < hN h ∧ (hK h a).1 = c) (hct : ∀ x, co = some x → Ct g.1 y bytes maxL ret fr' lo' mc' ms' (.ref (nB g.1 + a) :: As) h ((fun (_ : Hp) => none) x) ((fun (x : Hp) => x) x)) (hst : st0 = As.reverse ++ .ref (nB g.1 + a) :: st) (hrm : (st.map fun v => v.category).sum ≤ 8) (hnp : As.length = np) (hfr : fr' + 1 ≤ fr) (hlo : 8 + (maxL + 11) + lo' ≤ lo) (hk : k + mc' ≤ mc) (hn : n + ms' ≤ ms) (d : decode cc pc = .ok (.invokevirtual idx, 3)) (kk : ∀ x, co = some x → Xo g x0 nL (k + mc') (n + ms') (pc + 3) lv st x (K x)) : Xo g x0 nL k n pc lv st0 h (co.bind K) := X_callV (rv := fun (_ : Hp) => none) (hf := fun (x : Hp) => x) hg hy hin hse hln hcf hO hct hst hrm hnp hfr hlo hk hn d kk
theorem X_cVA0 (hg : XG g own cc nL fr lo mc ms) {co : Option (Nat)} {K : (Nat) → Option α} {y : MethodName} {bytes : ByteArray} {maxL : Nat} {ret : Option FieldType} {fr' lo' np : Nat} {As st0 : List Value} (hy : MF y bytes maxL ret np) (hin : Cond.instanceMethod y ∈ lw_tbl) (hse : Cond.selects y.cls y y ∈ lw_tbl) (hln : Cond.methodLink own idx y ∈ lw_tbl) (hcf : CF c y.cls T N) (hO : ∀ x, co = some x → a < hN h ∧ (hK h a).1 = c) (hct : ∀ x, co = some x → Ct g.1 y bytes maxL ret fr' lo' 0 0 (.ref (nB g.1 + a) :: As) h ((fun x => some (.ref (nB g.1 + x))) x) ((fun _ => h) x)) (hst : st0 = As.reverse ++ .ref (nB g.1 + a) :: st) (hrm : (st.map fun v => v.category).sum ≤ 8) (hnp : As.length = np) (hfr : fr' + 1 ≤ fr) (hlo : 8 + (maxL + 11) + lo' ≤ lo) (hk : k + 0 ≤ mc) (hn : n + 0 ≤ ms) (d : decode cc pc = .ok (.invokevirtual idx, 3)) (kk : ∀ x, co = some x → Xo g x0 nL k n (pc + 3) lv (.ref (nB g.1 + x) :: st) h (K x)) : Xo g x0 nL k n pc lv st0 h (co.bind K) := X_callV (rv := fun x => some (.ref (nB g.1 + x))) (hf := fun _ => h) hg hy hin hse hln hcf hO hct hst hrm hnp hfr hlo hk hn d kk
theorem X_cVA (hg : XG g own cc nL fr lo mc ms) {co : Option (Nat)} {K : (Nat) → Option α} {y : MethodName} {bytes : ByteArray} {maxL : Nat} {ret : Option FieldType} {fr' lo' mc' ms' np : Nat} {As st0 : List Value} (hy : MF y bytes maxL ret np) (hin : Cond.instanceMethod y ∈ lw_tbl) (hse : Cond.selects y.cls y y ∈ lw_tbl) (hln : Cond.methodLink own idx y ∈ lw_tbl) (hcf : CF c y.cls T N) (hO : ∀ x, co = some x → a < hN h ∧ (hK h a).1 = c) (hct : ∀ x, co = some x → Ct g.1 y bytes maxL ret fr' lo' mc' ms' (.ref (nB g.1 + a) :: As) h ((fun x => some (.ref (nB g.1 + x))) x) ((fun _ => h) x)) (hst : st0 = As.reverse ++ .ref (nB g.1 + a) :: st) (hrm : (st.map fun v => v.category).sum ≤ 8) (hnp : As.length = np) (hfr : fr' + 1 ≤ fr) (hlo : 8 + (maxL + 11) + lo' ≤ lo) (hk : k + mc' ≤ mc) (hn : n + ms' ≤ ms) (d : decode cc pc = .ok (.invokevirtual idx, 3)) (kk : ∀ x, co = some x → Xo g x0 nL (k + mc') (n + ms') (pc + 3) lv (.ref (nB g.1 + x) :: st) h (K x)) : Xo g x0 nL k n pc lv st0 h (co.bind K) := X_callV (rv := fun x => some (.ref (nB g.1 + x))) (hf := fun _ => h) hg hy hin hse hln hcf hO hct hst hrm hnp hfr hlo hk hn d kk
theorem X_cVAW0 (hg : XG g own cc nL fr lo mc ms) {co : Option (Nat × Hp)} {K : (Nat × Hp) → Option α} {y : MethodName} {bytes : ByteArray} {maxL : Nat} {ret : Option FieldType} {fr' lo' np : Nat} {As st0 : List Value} (hy : MF y bytes maxL ret np) (hin : Cond.instanceMethod y ∈ lw_tbl) (hse : Cond.selects y.cls y y ∈ lw_tbl) (hln : Cond.methodLink own idx y ∈ lw_tbl) (hcf : CF c y.cls T N) (hO : ∀ x, co = some x → a < hN h ∧ (hK h a).1 = c) (hct : ∀ x, co = some x → Ct g.1 y bytes maxL ret fr' lo' 0 0 (.ref (nB g.1 + a) :: As) h ((fun (x : Nat × Hp) => some (.ref (nB g.1 + x.1))) x) ((fun (x : Nat × Hp) => x.2) x)) (hst : st0 = As.reverse ++ .ref (nB g.1 + a) :: st) (hrm : (st.map fun v => v.category).sum ≤ 8) (hnp : As.length = np) (hfr : fr' + 1 ≤ fr) (hlo : 8 + (maxL + 11) + lo' ≤ lo) (hk : k + 0 ≤ mc) (hn : n + 0 ≤ ms) (d : decode cc pc = .ok (.invokevirtual idx, 3)) (kk : ∀ x, co = some x → Xo g x0 nL k n (pc + 3) lv (.ref (nB g.1 + x.1) :: st) x.2 (K x)) : Xo g x0 nL k n pc lv st0 h (co.bind K) := X_callV (rv := fun (x : Nat × Hp) => some (.ref (nB g.1 + x.1))) (hf := fun (x : Nat × Hp) => x.2) hg hy hin hse hln hcf hO hct hst hrm hnp hfr hlo hk hn d kk
theorem X_cVAW (hg : XG g own cc nL fr lo mc ms) {co : Option (Nat × Hp)} {K : (Nat × Hp) → Option α} {y : MethodName} {bytes : ByteArray} {maxL : Nat} {ret : Option FieldType} {fr' lo' mc' ms' np : Nat} {As st0 : List Value} (hy : MF y bytes maxL ret np) (hin : Cond.instanceMethod y ∈ lw_tbl) (hse : Cond.selects y.cls y y ∈ lw_tbl) (hln : Cond.methodLink own idx y ∈ lw_tbl) (hcf : CF c y.cls T N) (hO : ∀ x, co = some x → a < hN h ∧ (hK h a).1 = c) (hct : ∀ x, co = some x → Ct g.1 y bytes maxL ret fr' lo' mc' ms' (.ref (nB g.1 + a) :: As) h ((fun (x : Nat × Hp) => some (.ref (nB g.1 + x.1))) x) ((fun (x : Nat × Hp) => x.2) x)) (hst : st0 = As.reverse ++ .ref (nB g.1 + a) :: st) (hrm : (st.map fun v => v.category).sum ≤ 8) (hnp : As.length = np) (hfr : fr' + 1 ≤ fr) (hlo : 8 + (maxL + 11) + lo' ≤ lo) (hk : k + mc' ≤ mc) (hn : n + ms' ≤ ms) (d : decode cc pc = .ok (.invokevirtual idx, 3)) (kk : ∀ x, co = some x → Xo g x0 nL (k + mc') (n + ms') (pc + 3) lv (.ref (nB g.1 + x.1) :: st) x.2 (K x)) : Xo g x0 nL k n pc lv st0 h (co.bind K) := X_callV (rv := fun (x : Nat × Hp) => some (.ref (nB g.1 + x.1))) (hf := fun (x : Nat × Hp) => x.2) hg hy hin hse hln hcf hO hct hst hrm hnp hfr hlo hk hn d kk
theorem X_cVQ0 (hg : XG g own cc nL fr lo mc ms) {co : Option (Option Nat)} {K : (Option Nat) → Option α} {y : MethodName} {bytes : ByteArray} {maxL : Nat} {ret : Option FieldType} {fr' lo' np : Nat} {As st0 : List Value} (hy : MF y bytes maxL ret np) (hin : Cond.instanceMethod y ∈ lw_tbl) (hse : Cond.selects y.cls y y ∈ lw_tbl) (hln : Cond.methodLink own idx y ∈ lw_tbl) (hcf : CF c y.cls T N) (hO : ∀ x, co = some x → a < hN h ∧ (hK h a).1 = c) (hct : ∀ x, co = some x → Ct g.1 y bytes maxL ret fr' lo' 0 0 (.ref (nB g.1 + a) :: As) h ((fun x => some (rl (nB g.1) x)) x) ((fun _ => h) x)) (hst : st0 = As.reverse ++ .ref (nB g.1 + a) :: st) (hrm : (st.map fun v => v.category).sum ≤ 8) (hnp : As.length = np) (hfr : fr' + 1 ≤ fr) (hlo : 8 + (maxL + 11) + lo' ≤ lo) (hk : k + 0 ≤ mc) (hn : n + 0 ≤ ms) (d : decode cc pc = .ok (.invokevirtual idx, 3)) (kk : ∀ x, co = some x → Xo g x0 nL k n (pc + 3) lv (rl (nB g.1) x :: st) h (K x)) : Xo g x0 nL k n pc lv st0 h (co.bind K) := X_callV (rv := fun x => some (rl (nB g.1) x)) (hf := fun _ => h) hg hy hin hse hln hcf hO hct hst hrm hnp hfr hlo hk hn d kk
theorem X_cVQ (hg : XG g own cc nL fr lo mc ms) {co : Option (Option Nat)} {K : (Option Nat) → Option α} {y : MethodName} {bytes : ByteArray} {maxL : Nat} {ret : Option FieldType} {fr' lo' mc' ms' np : Nat} {As st0 : List Value} (hy : MF y bytes maxL ret np) (hin : Cond.instanceMethod y ∈ lw_tbl) (hse : Cond.selects y.cls y y ∈ lw_tbl) (hln : Cond.methodLink own idx y ∈ lw_tbl) (hcf : CF c y.cls T N) (hO : ∀ x, co = some x → a < hN h ∧ (hK h a).1 = c) (hct : ∀ x, co = some x → Ct g.1 y bytes maxL ret fr' lo' mc' ms' (.ref (nB g.1 + a) :: As) h ((fun x => some (rl (nB g.1) x)) x) ((fun _ => h) x)) (hst : st0 = As.reverse ++ .ref (nB g.1 + a) :: st) (hrm : (st.map fun v => v.category).sum ≤ 8) (hnp : As.length = np) (hfr : fr' + 1 ≤ fr) (hlo : 8 + (maxL + 11) + lo' ≤ lo) (hk : k + mc' ≤ mc) (hn : n + ms' ≤ ms) (d : decode cc pc = .ok (.invokevirtual idx, 3)) (kk : ∀ x, co = some x → Xo g x0 nL (k + mc') (n + ms') (pc + 3) lv (rl (nB g.1) x :: st) h (K x)) : Xo g x0 nL k n pc lv st0 h (co.bind K) := X_callV (rv := fun x => some (rl (nB g.1) x)) (hf := fun _ => h) hg hy hin hse hln hcf hO hct hst hrm hnp hfr hlo hk hn d kk
theorem X_cSI0 (hg : XG g own cc nL fr lo mc ms) {co : Option (Int32)} {K : (Int32) → Option α} {y : MethodName} {bytes : ByteArray} {maxL : Nat} {ret : Option FieldType} {fr' lo' np : Nat} {As st0 : List Value} (hy : MF y bytes maxL ret np) (hss : Cond.static y ∈ lw_tbl) (hln : Cond.methodLink own idx y ∈ lw_tbl) (hct : ∀ x, co = some x → Ct g.1 y bytes maxL ret fr' lo' 0 0 (As) h ((fun x => some (.int x)) x) ((fun _ => h) x)) (hst : st0 = As.reverse ++ st) (hrm : (st.map fun v => v.category).sum ≤ 8) (hnp : As.length = np) (hfr : fr' + 1 ≤ fr) (hlo : 8 + (maxL + 11) + lo' ≤ lo) (hk : k + 0 ≤ mc) (hn : n + 0 ≤ ms) (d : decode cc pc = .ok (.invokestatic idx, 3)) (kk : ∀ x, co = some x → Xo g x0 nL k n (pc + 3) lv (.int x :: st) h (K x)) : Xo g x0 nL k n pc lv st0 h (co.bind K) := X_callS (rv := fun x => some (.int x)) (hf := fun _ => h) hg hy hss hln hct hst hrm hnp hfr hlo hk hn d kk
theorem X_cSJ0 (hg : XG g own cc nL fr lo mc ms) {co : Option (Int64)} {K : (Int64) → Option α} {y : MethodName} {bytes : ByteArray} {maxL : Nat} {ret : Option FieldType} {fr' lo' np : Nat} {As st0 : List Value} (hy : MF y bytes maxL ret np) (hss : Cond.static y ∈ lw_tbl) (hln : Cond.methodLink own idx y ∈ lw_tbl) (hct : ∀ x, co = some x → Ct g.1 y bytes maxL ret fr' lo' 0 0 (As) h ((fun x => some (.long x)) x) ((fun _ => h) x)) (hst : st0 = As.reverse ++ st) (hrm : (st.map fun v => v.category).sum ≤ 8) (hnp : As.length = np) (hfr : fr' + 1 ≤ fr) (hlo : 8 + (maxL + 11) + lo' ≤ lo) (hk : k + 0 ≤ mc) (hn : n + 0 ≤ ms) (d : decode cc pc = .ok (.invokestatic idx, 3)) (kk : ∀ x, co = some x → Xo g x0 nL k n (pc + 3) lv (.long x :: st) h (K x)) : Xo g x0 nL k n pc lv st0 h (co.bind K) := X_callS (rv := fun x => some (.long x)) (hf := fun _ => h) hg hy hss hln hct hst hrm hnp hfr hlo hk hn d kk
theorem X_cSV0 (hg : XG g own cc nL fr lo mc ms) {co : Option (Hp)} {K : (Hp) → Option α} {y : MethodName} {bytes : ByteArray} {maxL : Nat} {ret : Option FieldType} {fr' lo' np : Nat} {As st0 : List Value} (hy : MF y bytes maxL ret np) (hss : Cond.static y ∈ lw_tbl) (hln : Cond.methodLink own idx y ∈ lw_tbl) (hct : ∀ x, co = some x → Ct g.1 y bytes maxL ret fr' lo' 0 0 (As) h ((fun (_ : Hp) => none) x) ((fun (x : Hp) => x) x)) (hst : st0 = As.reverse ++ st) (hrm : (st.map fun v => v.category).sum ≤ 8) (hnp : As.length = np) (hfr : fr' + 1 ≤ fr) (hlo : 8 + (maxL + 11) + lo' ≤ lo) (hk : k + 0 ≤ mc) (hn : n + 0 ≤ ms) (d : decode cc pc = .ok (.invokestatic idx, 3)) (kk : ∀ x, co = some x → Xo g x0 nL k n (pc + 3) lv st x (K x)) : Xo g x0 nL k n pc lv st0 h (co.bind K) := X_callS (rv := fun (_ : Hp) => none) (hf := fun (x : Hp) => x) hg hy hss hln hct hst hrm hnp hfr hlo hk hn d kk
theorem X_cIV (hg : XG g own cc nL fr lo mc ms) {co : Option (Hp)} {K : (Hp) → Option α} {y : MethodName} {bytes : ByteArray} {maxL : Nat} {ret : Option FieldType} {fr' lo' mc' ms' np : Nat} {As st0 : List Value} (hy : MF y bytes maxL none np) (hyi : y.name = "<init>") (hret : ret = none) (hin : Cond.instanceMethod y ∈ lw_tbl) (hln : Cond.methodLink own idx y ∈ lw_tbl) (hct : ∀ x, co = some x → Ct g.1 y bytes maxL ret fr' lo' mc' ms' (.ref (nB g.1 + a) :: As) h ((fun (_ : Hp) => none) x) ((fun (x : Hp) => x) x)) (hst : st0 = As.reverse ++ .ref (nB g.1 + a) :: st) (hrm : (st.map fun v => v.category).sum ≤ 8) (hnp : As.length = np) (hfr : fr' + 1 ≤ fr) (hlo : 8 + (maxL + 11) + lo' ≤ lo) (hk : k + mc' ≤ mc) (hn : n + ms' ≤ ms) (d : decode cc pc = .ok (.invokespecial idx, 3)) (kk : ∀ x, co = some x → Xo g x0 nL (k + mc') (n + ms') (pc + 3) lv st x (K x)) : Xo g x0 nL k n pc lv st0 h (co.bind K) := X_callI (rv := fun (_ : Hp) => none) (hf := fun (x : Hp) => x) hg hy hyi hret hin hln hct hst hrm hnp hfr hlo hk hn d kk
theorem X_cINV (hg : XG g own cc nL fr lo mc ms) {co : Option (Hp)} {K : (Hp) → Option α} {y : MethodName} {bytes : ByteArray} {maxL : Nat} {ret : Option FieldType} {fr' lo' mc' ms' np : Nat} {As st0 : List Value} {host : String} (hy : MF y bytes maxL none np) (hyi : y.name = "<init>") (hret : ret = none) (hin : Cond.instanceMethod y ∈ lw_tbl) (hln : Cond.methodLinkNest own idx y host ∈ lw_tbl) (hct : ∀ x, co = some x → Ct g.1 y bytes maxL ret fr' lo' mc' ms' (.ref (nB g.1 + a) :: As) h ((fun (_ : Hp) => none) x) ((fun (x : Hp) => x) x)) (hst : st0 = As.reverse ++ .ref (nB g.1 + a) :: st) (hrm : (st.map fun v => v.category).sum ≤ 8) (hnp : As.length = np) (hfr : fr' + 1 ≤ fr) (hlo : 8 + (maxL + 11) + lo' ≤ lo) (hk : k + mc' ≤ mc) (hn : n + ms' ≤ ms) (d : decode cc pc = .ok (.invokespecial idx, 3)) (kk : ∀ x, co = some x → Xo g x0 nL (k + mc') (n + ms') (pc + 3) lv st x (K x)) : Xo g x0 nL k n pc lv st0 h (co.bind K) := X_callIN (rv := fun (_ : Hp) => none) (hf := fun (x : Hp) => x) hg hy hyi hret hin hln hct hst hrm hnp hfr hlo hk hn d kk
end
end
section
set_option maxRecDepth 20000 in
theorem cf_0 : CF 0 RX0 TX0 1 := ⟨by decide, rfl, by decide +kernel, tyX0_ok, nmX0⟩
theorem ok_0 : ∀ j, j < 1 → okT (tyC 0 j) = true := by decide +kernel
set_option maxRecDepth 20000 in
theorem cf_1 : CF 1 RX1 TX1 3 := ⟨by decide, rfl, by decide +kernel, tyX1_ok, nmX1⟩
theorem ok_1 : ∀ j, j < 3 → okT (tyC 1 j) = true := by decide +kernel
set_option maxRecDepth 20000 in
theorem cf_2 : CF 2 RX2 TX2 2 := ⟨by decide, rfl, by decide +kernel, tyX2_ok, nmX2⟩
theorem ok_2 : ∀ j, j < 2 → okT (tyC 2 j) = true := by decide +kernel
set_option maxRecDepth 20000 in
theorem cf_3 : CF 3 RX3 TX3 6 := ⟨by decide, rfl, by decide +kernel, tyX3_ok, nmX3⟩
theorem ok_3 : ∀ j, j < 6 → okT (tyC 3 j) = true := by decide +kernel
set_option maxRecDepth 20000 in
theorem cf_4 : CF 4 RX4 TX4 6 := ⟨by decide, rfl, by decide +kernel, tyX4_ok, nmX4⟩
theorem ok_4 : ∀ j, j < 6 → okT (tyC 4 j) = true := by decide +kernel
set_option maxRecDepth 20000 in
theorem cf_5 : CF 5 RX5 TX5 4 := ⟨by decide, rfl, by decide +kernel, tyX5_ok, nmX5⟩
theorem ok_5 : ∀ j, j < 4 → okT (tyC 5 j) = true := by decide +kernel
set_option maxRecDepth 20000 in
theorem cf_6 : CF 6 RX6 TX6 5 := ⟨by decide, rfl, by decide +kernel, tyX6_ok, nmX6⟩
theorem ok_6 : ∀ j, j < 5 → okT (tyC 6 j) = true := by decide +kernel
set_option maxRecDepth 20000 in
theorem cf_7 : CF 7 RX7 TX7 2 := ⟨by decide, rfl, by decide +kernel, tyX7_ok, nmX7⟩
theorem ok_7 : ∀ j, j < 2 → okT (tyC 7 j) = true := by decide +kernel
set_option maxRecDepth 20000 in
theorem cf_8 : CF 8 RX8 TX8 2 := ⟨by decide, rfl, by decide +kernel, tyX8_ok, nmX8⟩
theorem ok_8 : ∀ j, j < 2 → okT (tyC 8 j) = true := by decide +kernel
set_option maxRecDepth 20000 in
theorem cf_9 : CF 9 RX9 TX9 15 := ⟨by decide, rfl, by decide +kernel, tyX9_ok, nmX9⟩
theorem ok_9 : ∀ j, j < 15 → okT (tyC 9 j) = true := by decide +kernel
set_option maxRecDepth 20000 in
theorem cf_10 : CF 10 RX10 TX10 33 := ⟨by decide, rfl, by decide +kernel, tyX10_ok, nmX10⟩
theorem ok_10 : ∀ j, j < 33 → okT (tyC 10 j) = true := by decide +kernel
theorem ic_b_m104 : (Int8.ofInt (-104 : Int)).toInt32 = (-104 : Int32) := by decide
theorem ic_b_m103 : (Int8.ofInt (-103 : Int)).toInt32 = (-103 : Int32) := by decide
theorem ic_b_m102 : (Int8.ofInt (-102 : Int)).toInt32 = (-102 : Int32) := by decide
theorem ic_b_m101 : (Int8.ofInt (-101 : Int)).toInt32 = (-101 : Int32) := by decide
theorem ic_b_m2 : (Int8.ofInt (-2 : Int)).toInt32 = (-2 : Int32) := by decide
theorem ic_b_6 : (Int8.ofInt (6 : Int)).toInt32 = (6 : Int32) := by decide
theorem ic_b_7 : (Int8.ofInt (7 : Int)).toInt32 = (7 : Int32) := by decide
theorem ic_b_8 : (Int8.ofInt (8 : Int)).toInt32 = (8 : Int32) := by decide
theorem ic_b_9 : (Int8.ofInt (9 : Int)).toInt32 = (9 : Int32) := by decide
theorem ic_b_10 : (Int8.ofInt (10 : Int)).toInt32 = (10 : Int32) := by decide
theorem ic_b_11 : (Int8.ofInt (11 : Int)).toInt32 = (11 : Int32) := by decide
theorem ic_b_13 : (Int8.ofInt (13 : Int)).toInt32 = (13 : Int32) := by decide
theorem ic_b_14 : (Int8.ofInt (14 : Int)).toInt32 = (14 : Int32) := by decide
theorem ic_b_15 : (Int8.ofInt (15 : Int)).toInt32 = (15 : Int32) := by decide
theorem ic_b_19 : (Int8.ofInt (19 : Int)).toInt32 = (19 : Int32) := by decide
theorem ic_b_22 : (Int8.ofInt (22 : Int)).toInt32 = (22 : Int32) := by decide
theorem ic_b_26 : (Int8.ofInt (26 : Int)).toInt32 = (26 : Int32) := by decide
theorem ic_b_32 : (Int8.ofInt (32 : Int)).toInt32 = (32 : Int32) := by decide
theorem ic_b_44 : (Int8.ofInt (44 : Int)).toInt32 = (44 : Int32) := by decide
theorem ic_b_48 : (Int8.ofInt (48 : Int)).toInt32 = (48 : Int32) := by decide
theorem ic_b_50 : (Int8.ofInt (50 : Int)).toInt32 = (50 : Int32) := by decide
theorem ic_b_57 : (Int8.ofInt (57 : Int)).toInt32 = (57 : Int32) := by decide
theorem ic_b_58 : (Int8.ofInt (58 : Int)).toInt32 = (58 : Int32) := by decide
theorem ic_b_59 : (Int8.ofInt (59 : Int)).toInt32 = (59 : Int32) := by decide
theorem ic_b_97 : (Int8.ofInt (97 : Int)).toInt32 = (97 : Int32) := by decide
theorem ic_b_99 : (Int8.ofInt (99 : Int)).toInt32 = (99 : Int32) := by decide
theorem ic_b_100 : (Int8.ofInt (100 : Int)).toInt32 = (100 : Int32) := by decide
theorem ic_b_112 : (Int8.ofInt (112 : Int)).toInt32 = (112 : Int32) := by decide
theorem ic_b_122 : (Int8.ofInt (122 : Int)).toInt32 = (122 : Int32) := by decide
theorem ic_b_126 : (Int8.ofInt (126 : Int)).toInt32 = (126 : Int32) := by decide
theorem ic_i_m1 : Int32.ofInt (-1 : Int) = (-1 : Int32) := by decide
theorem ic_i_0 : Int32.ofInt (0 : Int) = (0 : Int32) := by decide
theorem ic_i_1 : Int32.ofInt (1 : Int) = (1 : Int32) := by decide
theorem ic_i_2 : Int32.ofInt (2 : Int) = (2 : Int32) := by decide
theorem ic_i_3 : Int32.ofInt (3 : Int) = (3 : Int32) := by decide
theorem ic_i_4 : Int32.ofInt (4 : Int) = (4 : Int32) := by decide
theorem ic_i_5 : Int32.ofInt (5 : Int) = (5 : Int32) := by decide
theorem ic_s_196 : (Int16.ofInt (196 : Int)).toInt32 = (196 : Int32) := by decide
theorem ic_s_225 : (Int16.ofInt (225 : Int)).toInt32 = (225 : Int32) := by decide
theorem ic_s_1125 : (Int16.ofInt (1125 : Int)).toInt32 = (1125 : Int32) := by decide
theorem m_arrI : Cond.arrayClass .int ∈ lw_tbl := List.mem_of_getElem? (i := 129) (by decide +kernel)
theorem m_ovE : Cond.arrayOver (.object "DialMenus$Entry") ∈ lw_tbl := List.mem_of_getElem? (i := 159) (by decide +kernel)
theorem m_ovA : Cond.arrayOver (.array .int) ∈ lw_tbl := List.mem_of_getElem? (i := 235) (by decide +kernel)
theorem m_smC : Cond.sameMethod "[I" "java/lang/Object" "clone" "()Ljava/lang/Object;" ∈ lw_tbl := List.mem_of_getElem? (i := 139) (by decide +kernel)
theorem m_cast : Cond.castable "[I" "java/lang/Cloneable" ∈ lw_tbl := List.mem_of_getElem? (i := 143) (by decide +kernel)
theorem m_stmax : Cond.static Lib.Math.max.name ∈ lw_tbl := List.mem_of_getElem? (i := 120) (by decide +kernel)
theorem m_cdmax : Cond.code Lib.Math.max.name Lib.Math.max.code 2 (some .int) ∈ lw_tbl := List.mem_of_getElem? (i := 121) (by decide +kernel)
theorem m_stmin : Cond.static Lib.Math.min.name ∈ lw_tbl := List.mem_of_getElem? (i := 563) (by decide +kernel)
theorem m_cdmin : Cond.code Lib.Math.min.name Lib.Math.min.code 2 (some .int) ∈ lw_tbl := List.mem_of_getElem? (i := 564) (by decide +kernel)
theorem m_inM : Cond.initialized "java/lang/Math" ∈ lw_tbl := List.mem_of_getElem? (i := 93) (by decide +kernel)
theorem m_inS : Cond.initialized "java/lang/System" ∈ lw_tbl := List.mem_of_getElem? (i := 103) (by decide +kernel)
theorem m_natA : Cond.native arraycopyName ∈ lw_tbl := List.mem_of_getElem? (i := 480) (by decide +kernel)
theorem m_stA : Cond.static arraycopyName ∈ lw_tbl := List.mem_of_getElem? (i := 479) (by decide +kernel)
theorem m_oi : Cond.instanceMethod objectInit ∈ lw_tbl := List.mem_of_getElem? (i := 111) (by decide +kernel)
theorem m_oc : Cond.code objectInit ⟨#[0xb1]⟩ 1 none ∈ lw_tbl := List.mem_of_getElem? (i := 112) (by decide +kernel)
theorem mf_X8_init : MF yX8_init cX8_init 2 none 1 := ⟨List.mem_of_getElem? (i := 117) (by decide +kernel), List.mem_of_getElem? (i := 92) (by decide +kernel), ⟨by decide +kernel, by decide +kernel⟩, by decide +kernel⟩
theorem mf_X0_init : MF yX0_init cX0_init 1 none 0 := ⟨List.mem_of_getElem? (i := 196) (by decide +kernel), List.mem_of_getElem? (i := 97) (by decide +kernel), ⟨by decide +kernel, by decide +kernel⟩, by decide +kernel⟩
theorem mf_X7_get : MF yX7_get cX7_get 2 (some (.object "DialMenus$Entry")) 1 := ⟨List.mem_of_getElem? (i := 497) (by decide +kernel), List.mem_of_getElem? (i := 95) (by decide +kernel), ⟨by decide +kernel, by decide +kernel⟩, by decide +kernel⟩
theorem mf_X7_isAhead : MF yX7_isAhead cX7_isAhead 5 (some .boolean) 2 := ⟨List.mem_of_getElem? (i := 561) (by decide +kernel), List.mem_of_getElem? (i := 95) (by decide +kernel), ⟨by decide +kernel, by decide +kernel⟩, by decide +kernel⟩
theorem mf_X8_get : MF yX8_get cX8_get 2 (some .int) 1 := ⟨List.mem_of_getElem? (i := 360) (by decide +kernel), List.mem_of_getElem? (i := 92) (by decide +kernel), ⟨by decide +kernel, by decide +kernel⟩, by decide +kernel⟩
theorem mf_X8_size : MF yX8_size cX8_size 1 (some .int) 0 := ⟨List.mem_of_getElem? (i := 339) (by decide +kernel), List.mem_of_getElem? (i := 92) (by decide +kernel), ⟨by decide +kernel, by decide +kernel⟩, by decide +kernel⟩
theorem mf_X0_placeInList : MF yX0_placeInList cX0_placeInList 4 (some .int) 2 := ⟨List.mem_of_getElem? (i := 721) (by decide +kernel), List.mem_of_getElem? (i := 97) (by decide +kernel), ⟨by decide +kernel, by decide +kernel⟩, by decide +kernel⟩
theorem mf_X1_digitAt : MF yX1_digitAt cX1_digitAt 2 (some .int) 1 := ⟨List.mem_of_getElem? (i := 640) (by decide +kernel), List.mem_of_getElem? (i := 102) (by decide +kernel), ⟨by decide +kernel, by decide +kernel⟩, by decide +kernel⟩
theorem mf_X1_beginsWith : MF yX1_beginsWith cX1_beginsWith 3 (some .boolean) 1 := ⟨List.mem_of_getElem? (i := 715) (by decide +kernel), List.mem_of_getElem? (i := 102) (by decide +kernel), ⟨by decide +kernel, by decide +kernel⟩, by decide +kernel⟩
theorem mf_X7_beginsWith : MF yX7_beginsWith cX7_beginsWith 4 (some .boolean) 2 := ⟨List.mem_of_getElem? (i := 711) (by decide +kernel), List.mem_of_getElem? (i := 95) (by decide +kernel), ⟨by decide +kernel, by decide +kernel⟩, by decide +kernel⟩
theorem mf_X7_size : MF yX7_size cX7_size 1 (some .int) 0 := ⟨List.mem_of_getElem? (i := 421) (by decide +kernel), List.mem_of_getElem? (i := 95) (by decide +kernel), ⟨by decide +kernel, by decide +kernel⟩, by decide +kernel⟩
theorem mf_X8_clear : MF yX8_clear cX8_clear 2 (some .int) 0 := ⟨List.mem_of_getElem? (i := 347) (by decide +kernel), List.mem_of_getElem? (i := 92) (by decide +kernel), ⟨by decide +kernel, by decide +kernel⟩, by decide +kernel⟩
theorem mf_X8_isFull : MF yX8_isFull cX8_isFull 1 (some .boolean) 0 := ⟨List.mem_of_getElem? (i := 330) (by decide +kernel), List.mem_of_getElem? (i := 92) (by decide +kernel), ⟨by decide +kernel, by decide +kernel⟩, by decide +kernel⟩
theorem mf_X8_insert : MF yX8_insert cX8_insert 4 none 2 := ⟨List.mem_of_getElem? (i := 727) (by decide +kernel), List.mem_of_getElem? (i := 92) (by decide +kernel), ⟨by decide +kernel, by decide +kernel⟩, by decide +kernel⟩
theorem mf_X0_listFor : MF yX0_listFor cX0_listFor 4 (some (.object "DialMenus$Row")) 2 := ⟨List.mem_of_getElem? (i := 706) (by decide +kernel), List.mem_of_getElem? (i := 97) (by decide +kernel), ⟨by decide +kernel, by decide +kernel⟩, by decide +kernel⟩
theorem mf_X1_sharedDigits : MF yX1_sharedDigits cX1_sharedDigits 3 (some .int) 1 := ⟨List.mem_of_getElem? (i := 544) (by decide +kernel), List.mem_of_getElem? (i := 102) (by decide +kernel), ⟨by decide +kernel, by decide +kernel⟩, by decide +kernel⟩
theorem mf_X7_sharedDigits : MF yX7_sharedDigits cX7_sharedDigits 5 (some .int) 2 := ⟨List.mem_of_getElem? (i := 540) (by decide +kernel), List.mem_of_getElem? (i := 95) (by decide +kernel), ⟨by decide +kernel, by decide +kernel⟩, by decide +kernel⟩
theorem mf_X0_placeIn : MF yX0_placeIn cX0_placeIn 6 (some .int) 3 := ⟨List.mem_of_getElem? (i := 557) (by decide +kernel), List.mem_of_getElem? (i := 97) (by decide +kernel), ⟨by decide +kernel, by decide +kernel⟩, by decide +kernel⟩
theorem mf_X7_lengthOf : MF yX7_lengthOf cX7_lengthOf 3 (some .int) 1 := ⟨List.mem_of_getElem? (i := 518) (by decide +kernel), List.mem_of_getElem? (i := 95) (by decide +kernel), ⟨by decide +kernel, by decide +kernel⟩, by decide +kernel⟩
theorem mf_X0_presses : MF yX0_presses cX0_presses 5 (some .int) 2 := ⟨List.mem_of_getElem? (i := 553) (by decide +kernel), List.mem_of_getElem? (i := 97) (by decide +kernel), ⟨by decide +kernel, by decide +kernel⟩, by decide +kernel⟩
theorem mf_X0_distinguishingLength : MF yX0_distinguishingLength cX0_distinguishingLength 5 (some .int) 2 := ⟨List.mem_of_getElem? (i := 548) (by decide +kernel), List.mem_of_getElem? (i := 97) (by decide +kernel), ⟨by decide +kernel, by decide +kernel⟩, by decide +kernel⟩
theorem mf_X0_areTwins : MF yX0_areTwins cX0_areTwins 5 (some .boolean) 3 := ⟨List.mem_of_getElem? (i := 535) (by decide +kernel), List.mem_of_getElem? (i := 97) (by decide +kernel), ⟨by decide +kernel, by decide +kernel⟩, by decide +kernel⟩
theorem mf_X0_twinsBelow : MF yX0_twinsBelow cX0_twinsBelow 6 (some .int) 3 := ⟨List.mem_of_getElem? (i := 531) (by decide +kernel), List.mem_of_getElem? (i := 97) (by decide +kernel), ⟨by decide +kernel, by decide +kernel⟩, by decide +kernel⟩
theorem mf_X0_twins : MF yX0_twins cX0_twins 3 (some .int) 2 := ⟨List.mem_of_getElem? (i := 526) (by decide +kernel), List.mem_of_getElem? (i := 97) (by decide +kernel), ⟨by decide +kernel, by decide +kernel⟩, by decide +kernel⟩
theorem mf_X0_namesWithTwins : MF yX0_namesWithTwins cX0_namesWithTwins 4 (some .int) 1 := ⟨List.mem_of_getElem? (i := 657) (by decide +kernel), List.mem_of_getElem? (i := 97) (by decide +kernel), ⟨by decide +kernel, by decide +kernel⟩, by decide +kernel⟩
theorem mf_X0_differentCodes : MF yX0_differentCodes cX0_differentCodes 4 (some .int) 1 := ⟨List.mem_of_getElem? (i := 662) (by decide +kernel), List.mem_of_getElem? (i := 97) (by decide +kernel), ⟨by decide +kernel, by decide +kernel⟩, by decide +kernel⟩
theorem mf_X0_greatestDistinguishingLength : MF yX0_greatestDistinguishingLength cX0_greatestDistinguishingLength 4 (some .int) 1 := ⟨List.mem_of_getElem? (i := 666) (by decide +kernel), List.mem_of_getElem? (i := 97) (by decide +kernel), ⟨by decide +kernel, by decide +kernel⟩, by decide +kernel⟩
theorem mf_X7_frequencyOf : MF yX7_frequencyOf cX7_frequencyOf 3 (some .int) 1 := ⟨List.mem_of_getElem? (i := 522) (by decide +kernel), List.mem_of_getElem? (i := 95) (by decide +kernel), ⟨by decide +kernel, by decide +kernel⟩, by decide +kernel⟩
theorem mf_X0_sumOfPresses : MF yX0_sumOfPresses cX0_sumOfPresses 4 (some .int) 1 := ⟨List.mem_of_getElem? (i := 671) (by decide +kernel), List.mem_of_getElem? (i := 97) (by decide +kernel), ⟨by decide +kernel, by decide +kernel⟩, by decide +kernel⟩
theorem mf_X1_init : MF yX1_init cX1_init 7 none 4 := ⟨List.mem_of_getElem? (i := 432) (by decide +kernel), List.mem_of_getElem? (i := 102) (by decide +kernel), ⟨by decide +kernel, by decide +kernel⟩, by decide +kernel⟩
theorem mf_X2_digitOf : MF yX2_digitOf cX2_digitOf 2 (some .int) 1 := ⟨List.mem_of_getElem? (i := 454) (by decide +kernel), List.mem_of_getElem? (i := 94) (by decide +kernel), ⟨by decide +kernel, by decide +kernel⟩, by decide +kernel⟩
theorem mf_X1_encode : MF yX1_encode cX1_encode 3 none 1 := ⟨List.mem_of_getElem? (i := 450) (by decide +kernel), List.mem_of_getElem? (i := 102) (by decide +kernel), ⟨by decide +kernel, by decide +kernel⟩, by decide +kernel⟩
theorem mf_X1_letterAt : MF yX1_letterAt cX1_letterAt 2 (some .int) 1 := ⟨List.mem_of_getElem? (i := 628) (by decide +kernel), List.mem_of_getElem? (i := 102) (by decide +kernel), ⟨by decide +kernel, by decide +kernel⟩, by decide +kernel⟩
theorem mf_X1_comesBefore : MF yX1_comesBefore cX1_comesBefore 3 (some .boolean) 1 := ⟨List.mem_of_getElem? (i := 466) (by decide +kernel), List.mem_of_getElem? (i := 102) (by decide +kernel), ⟨by decide +kernel, by decide +kernel⟩, by decide +kernel⟩
theorem mf_X1_isWritten : MF yX1_isWritten cX1_isWritten 5 (some .boolean) 3 := ⟨List.mem_of_getElem? (i := 416) (by decide +kernel), List.mem_of_getElem? (i := 102) (by decide +kernel), ⟨by decide +kernel, by decide +kernel⟩, by decide +kernel⟩
theorem mf_X1_isTypedAt : MF yX1_isTypedAt cX1_isTypedAt 4 (some .boolean) 2 := ⟨List.mem_of_getElem? (i := 750) (by decide +kernel), List.mem_of_getElem? (i := 102) (by decide +kernel), ⟨by decide +kernel, by decide +kernel⟩, by decide +kernel⟩
theorem mf_X2_init : MF yX2_init cX2_init 1 none 0 := ⟨List.mem_of_getElem? (i := 134) (by decide +kernel), List.mem_of_getElem? (i := 94) (by decide +kernel), ⟨by decide +kernel, by decide +kernel⟩, by decide +kernel⟩
theorem mf_X2_read : MF yX2_read cX2_read 8 (some .int) 1 := ⟨List.mem_of_getElem? (i := 474) (by decide +kernel), List.mem_of_getElem? (i := 94) (by decide +kernel), ⟨by decide +kernel, by decide +kernel⟩, by decide +kernel⟩
theorem mf_X3_init : MF yX3_init cX3_init 1 none 0 := ⟨List.mem_of_getElem? (i := 171) (by decide +kernel), List.mem_of_getElem? (i := 96) (by decide +kernel), ⟨by decide +kernel, by decide +kernel⟩, by decide +kernel⟩
theorem mf_X3_items : MF yX3_items cX3_items 1 (some .int) 0 := ⟨List.mem_of_getElem? (i := 400) (by decide +kernel), List.mem_of_getElem? (i := 96) (by decide +kernel), ⟨by decide +kernel, by decide +kernel⟩, by decide +kernel⟩
theorem mf_X3_startOf : MF yX3_startOf cX3_startOf 2 (some .int) 1 := ⟨List.mem_of_getElem? (i := 404) (by decide +kernel), List.mem_of_getElem? (i := 96) (by decide +kernel), ⟨by decide +kernel, by decide +kernel⟩, by decide +kernel⟩
theorem mf_X3_lengthOf : MF yX3_lengthOf cX3_lengthOf 2 (some .int) 1 := ⟨List.mem_of_getElem? (i := 408) (by decide +kernel), List.mem_of_getElem? (i := 96) (by decide +kernel), ⟨by decide +kernel, by decide +kernel⟩, by decide +kernel⟩
theorem mf_X3_frequencyOf : MF yX3_frequencyOf cX3_frequencyOf 2 (some .int) 1 := ⟨List.mem_of_getElem? (i := 368) (by decide +kernel), List.mem_of_getElem? (i := 96) (by decide +kernel), ⟨by decide +kernel, by decide +kernel⟩, by decide +kernel⟩
theorem mf_X3_entryOf : MF yX3_entryOf cX3_entryOf 3 (some (.object "DialMenus$Entry")) 2 := ⟨List.mem_of_getElem? (i := 425) (by decide +kernel), List.mem_of_getElem? (i := 96) (by decide +kernel), ⟨by decide +kernel, by decide +kernel⟩, by decide +kernel⟩
theorem mf_X3_endsWithItem : MF yX3_endsWithItem cX3_endsWithItem 1 (some .boolean) 0 := ⟨List.mem_of_getElem? (i := 392) (by decide +kernel), List.mem_of_getElem? (i := 96) (by decide +kernel), ⟨by decide +kernel, by decide +kernel⟩, by decide +kernel⟩
theorem mf_X3_fitsFrequency : MF yX3_fitsFrequency cX3_fitsFrequency 5 (some .boolean) 2 := ⟨List.mem_of_getElem? (i := 364) (by decide +kernel), List.mem_of_getElem? (i := 96) (by decide +kernel), ⟨by decide +kernel, by decide +kernel⟩, by decide +kernel⟩
theorem mf_X3_isSameText : MF yX3_isSameText cX3_isSameText 5 (some .boolean) 3 := ⟨List.mem_of_getElem? (i := 384) (by decide +kernel), List.mem_of_getElem? (i := 96) (by decide +kernel), ⟨by decide +kernel, by decide +kernel⟩, by decide +kernel⟩
theorem mf_X3_isListed : MF yX3_isListed cX3_isListed 4 (some .boolean) 2 := ⟨List.mem_of_getElem? (i := 380) (by decide +kernel), List.mem_of_getElem? (i := 96) (by decide +kernel), ⟨by decide +kernel, by decide +kernel⟩, by decide +kernel⟩
theorem mf_X3_endsName : MF yX3_endsName cX3_endsName 4 (some .boolean) 2 := ⟨List.mem_of_getElem? (i := 376) (by decide +kernel), List.mem_of_getElem? (i := 96) (by decide +kernel), ⟨by decide +kernel, by decide +kernel⟩, by decide +kernel⟩
theorem mf_X3_fitsName : MF yX3_fitsName cX3_fitsName 4 (some .boolean) 2 := ⟨List.mem_of_getElem? (i := 372) (by decide +kernel), List.mem_of_getElem? (i := 96) (by decide +kernel), ⟨by decide +kernel, by decide +kernel⟩, by decide +kernel⟩
theorem mf_X3_scan : MF yX3_scan cX3_scan 5 (some .int) 1 := ⟨List.mem_of_getElem? (i := 355) (by decide +kernel), List.mem_of_getElem? (i := 96) (by decide +kernel), ⟨by decide +kernel, by decide +kernel⟩, by decide +kernel⟩
theorem mf_X4_init : MF yX4_init cX4_init 1 none 0 := ⟨List.mem_of_getElem? (i := 253) (by decide +kernel), List.mem_of_getElem? (i := 100) (by decide +kernel), ⟨by decide +kernel, by decide +kernel⟩, by decide +kernel⟩
theorem mf_J7_fill_53178 : MF yJ7_fill_53178 cJ7_fill_53178 4 none 2 := ⟨List.mem_of_getElem? (i := 604) (by decide +kernel), List.mem_of_getElem? (i := 104) (by decide +kernel), ⟨by decide +kernel, by decide +kernel⟩, by decide +kernel⟩
theorem mf_X4_start : MF yX4_start cX4_start 3 none 2 := ⟨List.mem_of_getElem? (i := 599) (by decide +kernel), List.mem_of_getElem? (i := 100) (by decide +kernel), ⟨by decide +kernel, by decide +kernel⟩, by decide +kernel⟩
theorem mf_X4_has : MF yX4_has cX4_has 2 (some .boolean) 1 := ⟨List.mem_of_getElem? (i := 573) (by decide +kernel), List.mem_of_getElem? (i := 100) (by decide +kernel), ⟨by decide +kernel, by decide +kernel⟩, by decide +kernel⟩
theorem mf_X4_addStep : MF yX4_addStep cX4_addStep 3 none 2 := ⟨List.mem_of_getElem? (i := 616) (by decide +kernel), List.mem_of_getElem? (i := 100) (by decide +kernel), ⟨by decide +kernel, by decide +kernel⟩, by decide +kernel⟩
theorem mf_X4_addBranching : MF yX4_addBranching cX4_addBranching 1 none 0 := ⟨List.mem_of_getElem? (i := 612) (by decide +kernel), List.mem_of_getElem? (i := 100) (by decide +kernel), ⟨by decide +kernel, by decide +kernel⟩, by decide +kernel⟩
theorem mf_X4_width : MF yX4_width cX4_width 1 (some .int) 0 := ⟨List.mem_of_getElem? (i := 804) (by decide +kernel), List.mem_of_getElem? (i := 100) (by decide +kernel), ⟨by decide +kernel, by decide +kernel⟩, by decide +kernel⟩
theorem mf_X4_branchings : MF yX4_branchings cX4_branchings 1 (some .int) 0 := ⟨List.mem_of_getElem? (i := 853) (by decide +kernel), List.mem_of_getElem? (i := 100) (by decide +kernel), ⟨by decide +kernel, by decide +kernel⟩, by decide +kernel⟩
theorem mf_X4_lengthOf : MF yX4_lengthOf cX4_lengthOf 2 (some .int) 1 := ⟨List.mem_of_getElem? (i := 569) (by decide +kernel), List.mem_of_getElem? (i := 100) (by decide +kernel), ⟨by decide +kernel, by decide +kernel⟩, by decide +kernel⟩
theorem mf_X4_stepOf : MF yX4_stepOf cX4_stepOf 3 (some .int) 2 := ⟨List.mem_of_getElem? (i := 816) (by decide +kernel), List.mem_of_getElem? (i := 100) (by decide +kernel), ⟨by decide +kernel, by decide +kernel⟩, by decide +kernel⟩
theorem mf_X4_cost : MF yX4_cost cX4_cost 4 (some .int) 1 := ⟨List.mem_of_getElem? (i := 791) (by decide +kernel), List.mem_of_getElem? (i := 100) (by decide +kernel), ⟨by decide +kernel, by decide +kernel⟩, by decide +kernel⟩
theorem mf_X4_longestPath : MF yX4_longestPath cX4_longestPath 3 (some .int) 0 := ⟨List.mem_of_getElem? (i := 849) (by decide +kernel), List.mem_of_getElem? (i := 100) (by decide +kernel), ⟨by decide +kernel, by decide +kernel⟩, by decide +kernel⟩
theorem mf_X4_partsOfWhole : MF yX4_partsOfWhole cX4_partsOfWhole 1 (some .int) 0 := ⟨List.mem_of_getElem? (i := 857) (by decide +kernel), List.mem_of_getElem? (i := 100) (by decide +kernel), ⟨by decide +kernel, by decide +kernel⟩, by decide +kernel⟩
theorem mf_X4_hasSamePath : MF yX4_hasSamePath cX4_hasSamePath 4 (some .boolean) 2 := ⟨List.mem_of_getElem? (i := 812) (by decide +kernel), List.mem_of_getElem? (i := 100) (by decide +kernel), ⟨by decide +kernel, by decide +kernel⟩, by decide +kernel⟩
theorem mf_X4_differentPaths : MF yX4_differentPaths cX4_differentPaths 4 (some .int) 1 := ⟨List.mem_of_getElem? (i := 808) (by decide +kernel), List.mem_of_getElem? (i := 100) (by decide +kernel), ⟨by decide +kernel, by decide +kernel⟩, by decide +kernel⟩
theorem mf_X4_beginsAsWanted : MF yX4_beginsAsWanted cX4_beginsAsWanted 4 (some .boolean) 1 := ⟨List.mem_of_getElem? (i := 839) (by decide +kernel), List.mem_of_getElem? (i := 100) (by decide +kernel), ⟨by decide +kernel, by decide +kernel⟩, by decide +kernel⟩
theorem mf_X8_add : MF yX8_add cX8_add 2 none 1 := ⟨List.mem_of_getElem? (i := 334) (by decide +kernel), List.mem_of_getElem? (i := 92) (by decide +kernel), ⟨by decide +kernel, by decide +kernel⟩, by decide +kernel⟩
theorem mf_X4_splitDecimals : MF yX4_splitDecimals cX4_splitDecimals 4 none 1 := ⟨List.mem_of_getElem? (i := 833) (by decide +kernel), List.mem_of_getElem? (i := 100) (by decide +kernel), ⟨by decide +kernel, by decide +kernel⟩, by decide +kernel⟩
theorem mf_X4_follow : MF yX4_follow cX4_follow 3 (some .int) 1 := ⟨List.mem_of_getElem? (i := 829) (by decide +kernel), List.mem_of_getElem? (i := 100) (by decide +kernel), ⟨by decide +kernel, by decide +kernel⟩, by decide +kernel⟩
theorem mf_X5_init : MF yX5_init cX5_init 1 none 0 := ⟨List.mem_of_getElem? (i := 232) (by decide +kernel), List.mem_of_getElem? (i := 99) (by decide +kernel), ⟨by decide +kernel, by decide +kernel⟩, by decide +kernel⟩
theorem mf_X5_run : MF yX5_run cX5_run 2 (some .int) 2 := ⟨List.mem_of_getElem? (i := 591) (by decide +kernel), List.mem_of_getElem? (i := 99) (by decide +kernel), ⟨by decide +kernel, by decide +kernel⟩, by decide +kernel⟩
theorem mf_X5_layPath : MF yX5_layPath cX5_layPath 11 none 3 := ⟨List.mem_of_getElem? (i := 608) (by decide +kernel), List.mem_of_getElem? (i := 99) (by decide +kernel), ⟨by decide +kernel, by decide +kernel⟩, by decide +kernel⟩
theorem mf_X5_planParts : MF yX5_planParts cX5_planParts 8 none 3 := ⟨List.mem_of_getElem? (i := 595) (by decide +kernel), List.mem_of_getElem? (i := 99) (by decide +kernel), ⟨by decide +kernel, by decide +kernel⟩, by decide +kernel⟩
theorem mf_X5_planRun : MF yX5_planRun cX5_planRun 7 none 3 := ⟨List.mem_of_getElem? (i := 588) (by decide +kernel), List.mem_of_getElem? (i := 99) (by decide +kernel), ⟨by decide +kernel, by decide +kernel⟩, by decide +kernel⟩
theorem mf_X5_planInto : MF yX5_planInto cX5_planInto 8 none 3 := ⟨List.mem_of_getElem? (i := 581) (by decide +kernel), List.mem_of_getElem? (i := 99) (by decide +kernel), ⟨by decide +kernel, by decide +kernel⟩, by decide +kernel⟩
theorem mf_X6_init : MF yX6_init cX6_init 1 none 0 := ⟨List.mem_of_getElem? (i := 208) (by decide +kernel), List.mem_of_getElem? (i := 98) (by decide +kernel), ⟨by decide +kernel, by decide +kernel⟩, by decide +kernel⟩
theorem mf_X6_keepsBest : MF yX6_keepsBest cX6_keepsBest 3 (some .boolean) 2 := ⟨List.mem_of_getElem? (i := 769) (by decide +kernel), List.mem_of_getElem? (i := 98) (by decide +kernel), ⟨by decide +kernel, by decide +kernel⟩, by decide +kernel⟩
theorem mf_X7_isTypedAt : MF yX7_isTypedAt cX7_isTypedAt 5 (some .boolean) 3 := ⟨List.mem_of_getElem? (i := 746) (by decide +kernel), List.mem_of_getElem? (i := 95) (by decide +kernel), ⟨by decide +kernel, by decide +kernel⟩, by decide +kernel⟩
theorem mf_X6_bestNameAt : MF yX6_bestNameAt cX6_bestNameAt 5 (some .int) 3 := ⟨List.mem_of_getElem? (i := 765) (by decide +kernel), List.mem_of_getElem? (i := 98) (by decide +kernel), ⟨by decide +kernel, by decide +kernel⟩, by decide +kernel⟩
theorem mf_X6_layBest : MF yX6_layBest cX6_layBest 6 none 2 := ⟨List.mem_of_getElem? (i := 760) (by decide +kernel), List.mem_of_getElem? (i := 98) (by decide +kernel), ⟨by decide +kernel, by decide +kernel⟩, by decide +kernel⟩
theorem mf_X6_studyDigit : MF yX6_studyDigit cX6_studyDigit 2 none 1 := ⟨List.mem_of_getElem? (i := 741) (by decide +kernel), List.mem_of_getElem? (i := 98) (by decide +kernel), ⟨by decide +kernel, by decide +kernel⟩, by decide +kernel⟩
theorem mf_X6_studyName : MF yX6_studyName cX6_studyName 3 none 2 := ⟨List.mem_of_getElem? (i := 755) (by decide +kernel), List.mem_of_getElem? (i := 98) (by decide +kernel), ⟨by decide +kernel, by decide +kernel⟩, by decide +kernel⟩
theorem mf_X6_study : MF yX6_study cX6_study 6 none 2 := ⟨List.mem_of_getElem? (i := 735) (by decide +kernel), List.mem_of_getElem? (i := 98) (by decide +kernel), ⟨by decide +kernel, by decide +kernel⟩, by decide +kernel⟩
theorem mf_X6_best : MF yX6_best cX6_best 1 (some (.object "DialMenus$Row")) 0 := ⟨List.mem_of_getElem? (i := 783) (by decide +kernel), List.mem_of_getElem? (i := 98) (by decide +kernel), ⟨by decide +kernel, by decide +kernel⟩, by decide +kernel⟩
theorem mf_X6_number : MF yX6_number cX6_number 2 (some .int) 1 := ⟨List.mem_of_getElem? (i := 775) (by decide +kernel), List.mem_of_getElem? (i := 98) (by decide +kernel), ⟨by decide +kernel, by decide +kernel⟩, by decide +kernel⟩
theorem mf_X7_init : MF yX7_init cX7_init 1 none 0 := ⟨List.mem_of_getElem? (i := 156) (by decide +kernel), List.mem_of_getElem? (i := 95) (by decide +kernel), ⟨by decide +kernel, by decide +kernel⟩, by decide +kernel⟩
theorem mf_X7_has : MF yX7_has cX7_has 2 (some .boolean) 1 := ⟨List.mem_of_getElem? (i := 493) (by decide +kernel), List.mem_of_getElem? (i := 95) (by decide +kernel), ⟨by decide +kernel, by decide +kernel⟩, by decide +kernel⟩
theorem mf_X7_placeOf : MF yX7_placeOf cX7_placeOf 7 (some .int) 1 := ⟨List.mem_of_getElem? (i := 462) (by decide +kernel), List.mem_of_getElem? (i := 95) (by decide +kernel), ⟨by decide +kernel, by decide +kernel⟩, by decide +kernel⟩
theorem mf_X7_insert : MF yX7_insert cX7_insert 4 none 1 := ⟨List.mem_of_getElem? (i := 458) (by decide +kernel), List.mem_of_getElem? (i := 95) (by decide +kernel), ⟨by decide +kernel, by decide +kernel⟩, by decide +kernel⟩
theorem mf_X7_remove : MF yX7_remove cX7_remove 3 none 1 := ⟨List.mem_of_getElem? (i := 501) (by decide +kernel), List.mem_of_getElem? (i := 95) (by decide +kernel), ⟨by decide +kernel, by decide +kernel⟩, by decide +kernel⟩
theorem mf_X7_contains : MF yX7_contains cX7_contains 8 (some .boolean) 3 := ⟨List.mem_of_getElem? (i := 412) (by decide +kernel), List.mem_of_getElem? (i := 95) (by decide +kernel), ⟨by decide +kernel, by decide +kernel⟩, by decide +kernel⟩
theorem mf_X7_encode : MF yX7_encode cX7_encode 6 none 1 := ⟨List.mem_of_getElem? (i := 484) (by decide +kernel), List.mem_of_getElem? (i := 95) (by decide +kernel), ⟨by decide +kernel, by decide +kernel⟩, by decide +kernel⟩
theorem mf_X7_setFrequency : MF yX7_setFrequency cX7_setFrequency 5 (some .int) 2 := ⟨List.mem_of_getElem? (i := 510) (by decide +kernel), List.mem_of_getElem? (i := 95) (by decide +kernel), ⟨by decide +kernel, by decide +kernel⟩, by decide +kernel⟩
theorem mf_X7_letterAt : MF yX7_letterAt cX7_letterAt 4 (some .int) 2 := ⟨List.mem_of_getElem? (i := 624) (by decide +kernel), List.mem_of_getElem? (i := 95) (by decide +kernel), ⟨by decide +kernel, by decide +kernel⟩, by decide +kernel⟩
theorem mf_X7_digitAt : MF yX7_digitAt cX7_digitAt 4 (some .int) 2 := ⟨List.mem_of_getElem? (i := 636) (by decide +kernel), List.mem_of_getElem? (i := 95) (by decide +kernel), ⟨by decide +kernel, by decide +kernel⟩, by decide +kernel⟩
theorem mf_X7_sumOfFrequencies : MF yX7_sumOfFrequencies cX7_sumOfFrequencies 6 (some .int) 0 := ⟨List.mem_of_getElem? (i := 653) (by decide +kernel), List.mem_of_getElem? (i := 95) (by decide +kernel), ⟨by decide +kernel, by decide +kernel⟩, by decide +kernel⟩
theorem mf_X7_sumOfLengths : MF yX7_sumOfLengths cX7_sumOfLengths 6 (some .int) 0 := ⟨List.mem_of_getElem? (i := 677) (by decide +kernel), List.mem_of_getElem? (i := 95) (by decide +kernel), ⟨by decide +kernel, by decide +kernel⟩, by decide +kernel⟩
theorem mf_X8_removeLast : MF yX8_removeLast cX8_removeLast 1 none 0 := ⟨List.mem_of_getElem? (i := 689) (by decide +kernel), List.mem_of_getElem? (i := 92) (by decide +kernel), ⟨by decide +kernel, by decide +kernel⟩, by decide +kernel⟩
theorem mf_X9_init : MF yX9_init cX9_init 1 none 0 := ⟨List.mem_of_getElem? (i := 109) (by decide +kernel), List.mem_of_getElem? (i := 91) (by decide +kernel), ⟨by decide +kernel, by decide +kernel⟩, by decide +kernel⟩
theorem mf_X9_letter : MF yX9_letter cX9_letter 2 (some .int) 1 := ⟨List.mem_of_getElem? (i := 326) (by decide +kernel), List.mem_of_getElem? (i := 91) (by decide +kernel), ⟨by decide +kernel, by decide +kernel⟩, by decide +kernel⟩
theorem mf_X9_blank : MF yX9_blank cX9_blank 1 (some .int) 0 := ⟨List.mem_of_getElem? (i := 343) (by decide +kernel), List.mem_of_getElem? (i := 91) (by decide +kernel), ⟨by decide +kernel, by decide +kernel⟩, by decide +kernel⟩
theorem mf_X9_fault : MF yX9_fault cX9_fault 1 (some .int) 0 := ⟨List.mem_of_getElem? (i := 351) (by decide +kernel), List.mem_of_getElem? (i := 91) (by decide +kernel), ⟨by decide +kernel, by decide +kernel⟩, by decide +kernel⟩
theorem mf_X9_isAnyItemKnown : MF yX9_isAnyItemKnown cX9_isAnyItemKnown 2 (some .boolean) 0 := ⟨List.mem_of_getElem? (i := 396) (by decide +kernel), List.mem_of_getElem? (i := 91) (by decide +kernel), ⟨by decide +kernel, by decide +kernel⟩, by decide +kernel⟩
theorem mf_X9_names : MF yX9_names cX9_names 5 (some .int) 0 := ⟨List.mem_of_getElem? (i := 388) (by decide +kernel), List.mem_of_getElem? (i := 91) (by decide +kernel), ⟨by decide +kernel, by decide +kernel⟩, by decide +kernel⟩
theorem mf_X9_dial : MF yX9_dial cX9_dial 2 (some .int) 0 := ⟨List.mem_of_getElem? (i := 470) (by decide +kernel), List.mem_of_getElem? (i := 91) (by decide +kernel), ⟨by decide +kernel, by decide +kernel⟩, by decide +kernel⟩
theorem mf_X9_drop : MF yX9_drop cX9_drop 2 (some .int) 1 := ⟨List.mem_of_getElem? (i := 489) (by decide +kernel), List.mem_of_getElem? (i := 91) (by decide +kernel), ⟨by decide +kernel, by decide +kernel⟩, by decide +kernel⟩
theorem mf_X9_use : MF yX9_use cX9_use 3 (some .int) 2 := ⟨List.mem_of_getElem? (i := 506) (by decide +kernel), List.mem_of_getElem? (i := 91) (by decide +kernel), ⟨by decide +kernel, by decide +kernel⟩, by decide +kernel⟩
theorem mf_X9_optimal : MF yX9_optimal cX9_optimal 2 (some (.object "DialMenus$Menu")) 1 := ⟨List.mem_of_getElem? (i := 577) (by decide +kernel), List.mem_of_getElem? (i := 91) (by decide +kernel), ⟨by decide +kernel, by decide +kernel⟩, by decide +kernel⟩
theorem mf_X9_name : MF yX9_name cX9_name 3 (some .int) 2 := ⟨List.mem_of_getElem? (i := 514) (by decide +kernel), List.mem_of_getElem? (i := 91) (by decide +kernel), ⟨by decide +kernel, by decide +kernel⟩, by decide +kernel⟩
theorem mf_X9_sign : MF yX9_sign cX9_sign 3 (some .int) 2 := ⟨List.mem_of_getElem? (i := 620) (by decide +kernel), List.mem_of_getElem? (i := 91) (by decide +kernel), ⟨by decide +kernel, by decide +kernel⟩, by decide +kernel⟩
theorem mf_X9_digit : MF yX9_digit cX9_digit 3 (some .int) 2 := ⟨List.mem_of_getElem? (i := 632) (by decide +kernel), List.mem_of_getElem? (i := 91) (by decide +kernel), ⟨by decide +kernel, by decide +kernel⟩, by decide +kernel⟩
theorem mf_X9_laid : MF yX9_laid cX9_laid 2 (some .int) 1 := ⟨List.mem_of_getElem? (i := 644) (by decide +kernel), List.mem_of_getElem? (i := 91) (by decide +kernel), ⟨by decide +kernel, by decide +kernel⟩, by decide +kernel⟩
theorem mf_X9_about : MF yX9_about cX9_about 2 (some .int) 1 := ⟨List.mem_of_getElem? (i := 649) (by decide +kernel), List.mem_of_getElem? (i := 91) (by decide +kernel), ⟨by decide +kernel, by decide +kernel⟩, by decide +kernel⟩
theorem mf_X9_press : MF yX9_press cX9_press 2 (some .int) 1 := ⟨List.mem_of_getElem? (i := 681) (by decide +kernel), List.mem_of_getElem? (i := 91) (by decide +kernel), ⟨by decide +kernel, by decide +kernel⟩, by decide +kernel⟩
theorem mf_X9_back : MF yX9_back cX9_back 1 (some .int) 0 := ⟨List.mem_of_getElem? (i := 685) (by decide +kernel), List.mem_of_getElem? (i := 91) (by decide +kernel), ⟨by decide +kernel, by decide +kernel⟩, by decide +kernel⟩
theorem mf_X9_wipe : MF yX9_wipe cX9_wipe 1 (some .int) 0 := ⟨List.mem_of_getElem? (i := 693) (by decide +kernel), List.mem_of_getElem? (i := 91) (by decide +kernel), ⟨by decide +kernel, by decide +kernel⟩, by decide +kernel⟩
theorem mf_X9_typed : MF yX9_typed cX9_typed 2 (some .int) 1 := ⟨List.mem_of_getElem? (i := 697) (by decide +kernel), List.mem_of_getElem? (i := 91) (by decide +kernel), ⟨by decide +kernel, by decide +kernel⟩, by decide +kernel⟩
theorem mf_X9_choice : MF yX9_choice cX9_choice 2 (some .int) 1 := ⟨List.mem_of_getElem? (i := 702) (by decide +kernel), List.mem_of_getElem? (i := 91) (by decide +kernel), ⟨by decide +kernel, by decide +kernel⟩, by decide +kernel⟩
theorem mf_X9_spelling : MF yX9_spelling cX9_spelling 2 (some .int) 1 := ⟨List.mem_of_getElem? (i := 731) (by decide +kernel), List.mem_of_getElem? (i := 91) (by decide +kernel), ⟨by decide +kernel, by decide +kernel⟩, by decide +kernel⟩
theorem mf_X9_piece : MF yX9_piece cX9_piece 2 (some .int) 1 := ⟨List.mem_of_getElem? (i := 779) (by decide +kernel), List.mem_of_getElem? (i := 91) (by decide +kernel), ⟨by decide +kernel, by decide +kernel⟩, by decide +kernel⟩
theorem mf_X9_adoptSpare : MF yX9_adoptSpare cX9_adoptSpare 2 none 0 := ⟨List.mem_of_getElem? (i := 796) (by decide +kernel), List.mem_of_getElem? (i := 91) (by decide +kernel), ⟨by decide +kernel, by decide +kernel⟩, by decide +kernel⟩
theorem mf_X9_build : MF yX9_build cX9_build 3 (some .int) 1 := ⟨List.mem_of_getElem? (i := 787) (by decide +kernel), List.mem_of_getElem? (i := 91) (by decide +kernel), ⟨by decide +kernel, by decide +kernel⟩, by decide +kernel⟩
theorem mf_X9_tend : MF yX9_tend cX9_tend 4 (some .int) 1 := ⟨List.mem_of_getElem? (i := 800) (by decide +kernel), List.mem_of_getElem? (i := 91) (by decide +kernel), ⟨by decide +kernel, by decide +kernel⟩, by decide +kernel⟩
theorem mf_X9_path : MF yX9_path cX9_path 3 (some .int) 2 := ⟨List.mem_of_getElem? (i := 820) (by decide +kernel), List.mem_of_getElem? (i := 91) (by decide +kernel), ⟨by decide +kernel, by decide +kernel⟩, by decide +kernel⟩
theorem mf_X9_leads : MF yX9_leads cX9_leads 2 (some .int) 1 := ⟨List.mem_of_getElem? (i := 825) (by decide +kernel), List.mem_of_getElem? (i := 91) (by decide +kernel), ⟨by decide +kernel, by decide +kernel⟩, by decide +kernel⟩
theorem mf_X9_menu : MF yX9_menu cX9_menu 2 (some .int) 1 := ⟨List.mem_of_getElem? (i := 845) (by decide +kernel), List.mem_of_getElem? (i := 91) (by decide +kernel), ⟨by decide +kernel, by decide +kernel⟩, by decide +kernel⟩
theorem mf_X9_count : MF yX9_count cX9_count 2 (some .int) 1 := ⟨List.mem_of_getElem? (i := 861) (by decide +kernel), List.mem_of_getElem? (i := 91) (by decide +kernel), ⟨by decide +kernel, by decide +kernel⟩, by decide +kernel⟩
theorem mf_X9_mix : MF yX9_mix cX9_mix 3 (some .long) 2 := ⟨List.mem_of_getElem? (i := 869) (by decide +kernel), List.mem_of_getElem? (i := 91) (by decide +kernel), ⟨by decide +kernel, by decide +kernel⟩, by decide +kernel⟩
theorem mf_X9_mixNames : MF yX9_mixNames cX9_mixNames 9 (some .long) 1 := ⟨List.mem_of_getElem? (i := 874) (by decide +kernel), List.mem_of_getElem? (i := 91) (by decide +kernel), ⟨by decide +kernel, by decide +kernel⟩, by decide +kernel⟩
theorem mf_X9_mixPaths : MF yX9_mixPaths cX9_mixPaths 8 (some .long) 1 := ⟨List.mem_of_getElem? (i := 884) (by decide +kernel), List.mem_of_getElem? (i := 91) (by decide +kernel), ⟨by decide +kernel, by decide +kernel⟩, by decide +kernel⟩
theorem mf_X9_mixRow : MF yX9_mixRow cX9_mixRow 6 (some .long) 2 := ⟨List.mem_of_getElem? (i := 879) (by decide +kernel), List.mem_of_getElem? (i := 91) (by decide +kernel), ⟨by decide +kernel, by decide +kernel⟩, by decide +kernel⟩
theorem mf_X9_digest : MF yX9_digest cX9_digest 4 (some .long) 0 := ⟨List.mem_of_getElem? (i := 865) (by decide +kernel), List.mem_of_getElem? (i := 91) (by decide +kernel), ⟨by decide +kernel, by decide +kernel⟩, by decide +kernel⟩
theorem mf_X10_init : MF yX10_init cX10_init 2 none 0 := ⟨List.mem_of_getElem? (i := 890) (by decide +kernel), List.mem_of_getElem? (i := 101) (by decide +kernel), ⟨by decide +kernel, by decide +kernel⟩, by decide +kernel⟩
theorem mf_X10_within : MF yX10_within cX10_within 3 (some .boolean) 3 := ⟨List.mem_of_getElem? (i := 998) (by decide +kernel), List.mem_of_getElem? (i := 101) (by decide +kernel), ⟨by decide +kernel, by decide +kernel⟩, by decide +kernel⟩
theorem mf_X10_letter : MF yX10_letter cX10_letter 2 (some .int) 1 := ⟨List.mem_of_getElem? (i := 995) (by decide +kernel), List.mem_of_getElem? (i := 101) (by decide +kernel), ⟨by decide +kernel, by decide +kernel⟩, by decide +kernel⟩
theorem mf_X10_blank : MF yX10_blank cX10_blank 2 (some .int) 0 := ⟨List.mem_of_getElem? (i := 1002) (by decide +kernel), List.mem_of_getElem? (i := 101) (by decide +kernel), ⟨by decide +kernel, by decide +kernel⟩, by decide +kernel⟩
theorem mf_X10_goes : MF yX10_goes cX10_goes 3 (some .boolean) 2 := ⟨List.mem_of_getElem? (i := 1026) (by decide +kernel), List.mem_of_getElem? (i := 101) (by decide +kernel), ⟨by decide +kernel, by decide +kernel⟩, by decide +kernel⟩
theorem mf_X10_isNewTwice : MF yX10_isNewTwice cX10_isNewTwice 5 (some .boolean) 0 := ⟨List.mem_of_getElem? (i := 1022) (by decide +kernel), List.mem_of_getElem? (i := 101) (by decide +kernel), ⟨by decide +kernel, by decide +kernel⟩, by decide +kernel⟩
theorem mf_X10_takesName : MF yX10_takesName cX10_takesName 3 (some .boolean) 1 := ⟨List.mem_of_getElem? (i := 1018) (by decide +kernel), List.mem_of_getElem? (i := 101) (by decide +kernel), ⟨by decide +kernel, by decide +kernel⟩, by decide +kernel⟩
theorem mf_X10_takesUse : MF yX10_takesUse cX10_takesUse 4 (some .boolean) 1 := ⟨List.mem_of_getElem? (i := 1030) (by decide +kernel), List.mem_of_getElem? (i := 101) (by decide +kernel), ⟨by decide +kernel, by decide +kernel⟩, by decide +kernel⟩
theorem mf_X10_takes : MF yX10_takes cX10_takes 2 (some .boolean) 1 := ⟨List.mem_of_getElem? (i := 1014) (by decide +kernel), List.mem_of_getElem? (i := 101) (by decide +kernel), ⟨by decide +kernel, by decide +kernel⟩, by decide +kernel⟩
theorem mf_X10_read : MF yX10_read cX10_read 2 (some .int) 0 := ⟨List.mem_of_getElem? (i := 1010) (by decide +kernel), List.mem_of_getElem? (i := 101) (by decide +kernel), ⟨by decide +kernel, by decide +kernel⟩, by decide +kernel⟩
theorem mf_X10_fault : MF yX10_fault cX10_fault 1 (some .int) 0 := ⟨List.mem_of_getElem? (i := 1006) (by decide +kernel), List.mem_of_getElem? (i := 101) (by decide +kernel), ⟨by decide +kernel, by decide +kernel⟩, by decide +kernel⟩
theorem mf_X10_compareNew : MF yX10_compareNew cX10_compareNew 6 (some .int) 2 := ⟨List.mem_of_getElem? (i := 1042) (by decide +kernel), List.mem_of_getElem? (i := 101) (by decide +kernel), ⟨by decide +kernel, by decide +kernel⟩, by decide +kernel⟩
theorem mf_X10_isThere : MF yX10_isThere cX10_isThere 4 (some .boolean) 1 := ⟨List.mem_of_getElem? (i := 1038) (by decide +kernel), List.mem_of_getElem? (i := 101) (by decide +kernel), ⟨by decide +kernel, by decide +kernel⟩, by decide +kernel⟩
theorem mf_X10_moveName : MF yX10_moveName cX10_moveName 4 none 2 := ⟨List.mem_of_getElem? (i := 1050) (by decide +kernel), List.mem_of_getElem? (i := 101) (by decide +kernel), ⟨by decide +kernel, by decide +kernel⟩, by decide +kernel⟩
theorem mf_X10_comes : MF yX10_comes cX10_comes 4 none 1 := ⟨List.mem_of_getElem? (i := 1046) (by decide +kernel), List.mem_of_getElem? (i := 101) (by decide +kernel), ⟨by decide +kernel, by decide +kernel⟩, by decide +kernel⟩
theorem mf_X10_names : MF yX10_names cX10_names 3 (some .int) 0 := ⟨List.mem_of_getElem? (i := 1034) (by decide +kernel), List.mem_of_getElem? (i := 101) (by decide +kernel), ⟨by decide +kernel, by decide +kernel⟩, by decide +kernel⟩
theorem mf_X10_isDial : MF yX10_isDial cX10_isDial 6 (some .boolean) 0 := ⟨List.mem_of_getElem? (i := 1058) (by decide +kernel), List.mem_of_getElem? (i := 101) (by decide +kernel), ⟨by decide +kernel, by decide +kernel⟩, by decide +kernel⟩
theorem mf_X10_dial : MF yX10_dial cX10_dial 5 (some .int) 0 := ⟨List.mem_of_getElem? (i := 1054) (by decide +kernel), List.mem_of_getElem? (i := 101) (by decide +kernel), ⟨by decide +kernel, by decide +kernel⟩, by decide +kernel⟩
theorem mf_X10_isName : MF yX10_isName cX10_isName 2 (some .boolean) 1 := ⟨List.mem_of_getElem? (i := 1066) (by decide +kernel), List.mem_of_getElem? (i := 101) (by decide +kernel), ⟨by decide +kernel, by decide +kernel⟩, by decide +kernel⟩
theorem mf_X10_drop : MF yX10_drop cX10_drop 3 (some .int) 1 := ⟨List.mem_of_getElem? (i := 1062) (by decide +kernel), List.mem_of_getElem? (i := 101) (by decide +kernel), ⟨by decide +kernel, by decide +kernel⟩, by decide +kernel⟩
theorem mf_X10_use : MF yX10_use cX10_use 4 (some .int) 2 := ⟨List.mem_of_getElem? (i := 1070) (by decide +kernel), List.mem_of_getElem? (i := 101) (by decide +kernel), ⟨by decide +kernel, by decide +kernel⟩, by decide +kernel⟩
theorem mf_X10_codeAt : MF yX10_codeAt cX10_codeAt 3 (some .int) 2 := ⟨List.mem_of_getElem? (i := 1094) (by decide +kernel), List.mem_of_getElem? (i := 101) (by decide +kernel), ⟨by decide +kernel, by decide +kernel⟩, by decide +kernel⟩
theorem mf_X10_begins : MF yX10_begins cX10_begins 6 (some .boolean) 3 := ⟨List.mem_of_getElem? (i := 1090) (by decide +kernel), List.mem_of_getElem? (i := 101) (by decide +kernel), ⟨by decide +kernel, by decide +kernel⟩, by decide +kernel⟩
theorem mf_X10_isTwin : MF yX10_isTwin cX10_isTwin 3 (some .boolean) 2 := ⟨List.mem_of_getElem? (i := 1086) (by decide +kernel), List.mem_of_getElem? (i := 101) (by decide +kernel), ⟨by decide +kernel, by decide +kernel⟩, by decide +kernel⟩
theorem mf_X10_twins : MF yX10_twins cX10_twins 4 (some .int) 1 := ⟨List.mem_of_getElem? (i := 1082) (by decide +kernel), List.mem_of_getElem? (i := 101) (by decide +kernel), ⟨by decide +kernel, by decide +kernel⟩, by decide +kernel⟩
theorem mf_X10_telling : MF yX10_telling cX10_telling 5 (some .int) 1 := ⟨List.mem_of_getElem? (i := 1098) (by decide +kernel), List.mem_of_getElem? (i := 101) (by decide +kernel), ⟨by decide +kernel, by decide +kernel⟩, by decide +kernel⟩
theorem mf_X10_isAhead : MF yX10_isAhead cX10_isAhead 3 (some .boolean) 2 := ⟨List.mem_of_getElem? (i := 1111) (by decide +kernel), List.mem_of_getElem? (i := 101) (by decide +kernel), ⟨by decide +kernel, by decide +kernel⟩, by decide +kernel⟩
theorem mf_X10_placeIn : MF yX10_placeIn cX10_placeIn 5 (some .int) 2 := ⟨List.mem_of_getElem? (i := 1107) (by decide +kernel), List.mem_of_getElem? (i := 101) (by decide +kernel), ⟨by decide +kernel, by decide +kernel⟩, by decide +kernel⟩
theorem mf_X10_presses : MF yX10_presses cX10_presses 5 (some .int) 1 := ⟨List.mem_of_getElem? (i := 1102) (by decide +kernel), List.mem_of_getElem? (i := 101) (by decide +kernel), ⟨by decide +kernel, by decide +kernel⟩, by decide +kernel⟩
theorem mf_X10_costAt : MF yX10_costAt cX10_costAt 3 (some .int) 2 := ⟨List.mem_of_getElem? (i := 1135) (by decide +kernel), List.mem_of_getElem? (i := 101) (by decide +kernel), ⟨by decide +kernel, by decide +kernel⟩, by decide +kernel⟩
theorem mf_X10_partsAt : MF yX10_partsAt cX10_partsAt 4 (some .int) 3 := ⟨List.mem_of_getElem? (i := 1131) (by decide +kernel), List.mem_of_getElem? (i := 101) (by decide +kernel), ⟨by decide +kernel, by decide +kernel⟩, by decide +kernel⟩
theorem mf_X10_bestParts : MF yX10_bestParts cX10_bestParts 8 (some .int) 3 := ⟨List.mem_of_getElem? (i := 1127) (by decide +kernel), List.mem_of_getElem? (i := 101) (by decide +kernel), ⟨by decide +kernel, by decide +kernel⟩, by decide +kernel⟩
theorem mf_X10_usesOf : MF yX10_usesOf cX10_usesOf 5 (some .int) 2 := ⟨List.mem_of_getElem? (i := 1139) (by decide +kernel), List.mem_of_getElem? (i := 101) (by decide +kernel), ⟨by decide +kernel, by decide +kernel⟩, by decide +kernel⟩
theorem mf_X10_layStretch : MF yX10_layStretch cX10_layStretch 7 none 3 := ⟨List.mem_of_getElem? (i := 1123) (by decide +kernel), List.mem_of_getElem? (i := 101) (by decide +kernel), ⟨by decide +kernel, by decide +kernel⟩, by decide +kernel⟩
theorem mf_X10_layCosts : MF yX10_layCosts cX10_layCosts 4 none 1 := ⟨List.mem_of_getElem? (i := 1119) (by decide +kernel), List.mem_of_getElem? (i := 101) (by decide +kernel), ⟨by decide +kernel, by decide +kernel⟩, by decide +kernel⟩
theorem mf_X10_firstCut : MF yX10_firstCut cX10_firstCut 5 (some .int) 3 := ⟨List.mem_of_getElem? (i := 1151) (by decide +kernel), List.mem_of_getElem? (i := 101) (by decide +kernel), ⟨by decide +kernel, by decide +kernel⟩, by decide +kernel⟩
theorem mf_X10_partsOf : MF yX10_partsOf cX10_partsOf 6 (some .int) 3 := ⟨List.mem_of_getElem? (i := 1147) (by decide +kernel), List.mem_of_getElem? (i := 101) (by decide +kernel), ⟨by decide +kernel, by decide +kernel⟩, by decide +kernel⟩
theorem mf_X10_layPath : MF yX10_layPath cX10_layPath 8 none 2 := ⟨List.mem_of_getElem? (i := 1143) (by decide +kernel), List.mem_of_getElem? (i := 101) (by decide +kernel), ⟨by decide +kernel, by decide +kernel⟩, by decide +kernel⟩
theorem mf_X10_layMenu : MF yX10_layMenu cX10_layMenu 3 none 1 := ⟨List.mem_of_getElem? (i := 1115) (by decide +kernel), List.mem_of_getElem? (i := 101) (by decide +kernel), ⟨by decide +kernel, by decide +kernel⟩, by decide +kernel⟩
theorem mf_X10_nameNow : MF yX10_nameNow cX10_nameNow 3 (some .int) 2 := ⟨List.mem_of_getElem? (i := 1078) (by decide +kernel), List.mem_of_getElem? (i := 101) (by decide +kernel), ⟨by decide +kernel, by decide +kernel⟩, by decide +kernel⟩
theorem mf_X10_name : MF yX10_name cX10_name 3 (some .int) 2 := ⟨List.mem_of_getElem? (i := 1074) (by decide +kernel), List.mem_of_getElem? (i := 101) (by decide +kernel), ⟨by decide +kernel, by decide +kernel⟩, by decide +kernel⟩
theorem mf_X10_sign : MF yX10_sign cX10_sign 3 (some .int) 2 := ⟨List.mem_of_getElem? (i := 1155) (by decide +kernel), List.mem_of_getElem? (i := 101) (by decide +kernel), ⟨by decide +kernel, by decide +kernel⟩, by decide +kernel⟩
theorem mf_X10_digit : MF yX10_digit cX10_digit 3 (some .int) 2 := ⟨List.mem_of_getElem? (i := 1159) (by decide +kernel), List.mem_of_getElem? (i := 101) (by decide +kernel), ⟨by decide +kernel, by decide +kernel⟩, by decide +kernel⟩
theorem mf_X10_laid : MF yX10_laid cX10_laid 2 (some .int) 1 := ⟨List.mem_of_getElem? (i := 1163) (by decide +kernel), List.mem_of_getElem? (i := 101) (by decide +kernel), ⟨by decide +kernel, by decide +kernel⟩, by decide +kernel⟩
theorem mf_X10_usesAll : MF yX10_usesAll cX10_usesAll 3 (some .int) 0 := ⟨List.mem_of_getElem? (i := 1175) (by decide +kernel), List.mem_of_getElem? (i := 101) (by decide +kernel), ⟨by decide +kernel, by decide +kernel⟩, by decide +kernel⟩
theorem mf_X10_withTwins : MF yX10_withTwins cX10_withTwins 3 (some .int) 0 := ⟨List.mem_of_getElem? (i := 1179) (by decide +kernel), List.mem_of_getElem? (i := 101) (by decide +kernel), ⟨by decide +kernel, by decide +kernel⟩, by decide +kernel⟩
theorem mf_X10_codesMany : MF yX10_codesMany cX10_codesMany 5 (some .int) 0 := ⟨List.mem_of_getElem? (i := 1183) (by decide +kernel), List.mem_of_getElem? (i := 101) (by decide +kernel), ⟨by decide +kernel, by decide +kernel⟩, by decide +kernel⟩
theorem mf_X10_mostTelling : MF yX10_mostTelling cX10_mostTelling 4 (some .int) 0 := ⟨List.mem_of_getElem? (i := 1187) (by decide +kernel), List.mem_of_getElem? (i := 101) (by decide +kernel), ⟨by decide +kernel, by decide +kernel⟩, by decide +kernel⟩
theorem mf_X10_pressesAll : MF yX10_pressesAll cX10_pressesAll 3 (some .int) 0 := ⟨List.mem_of_getElem? (i := 1191) (by decide +kernel), List.mem_of_getElem? (i := 101) (by decide +kernel), ⟨by decide +kernel, by decide +kernel⟩, by decide +kernel⟩
theorem mf_X10_digitsAll : MF yX10_digitsAll cX10_digitsAll 3 (some .int) 0 := ⟨List.mem_of_getElem? (i := 1195) (by decide +kernel), List.mem_of_getElem? (i := 101) (by decide +kernel), ⟨by decide +kernel, by decide +kernel⟩, by decide +kernel⟩
theorem mf_X10_aboutNow : MF yX10_aboutNow cX10_aboutNow 2 (some .int) 1 := ⟨List.mem_of_getElem? (i := 1171) (by decide +kernel), List.mem_of_getElem? (i := 101) (by decide +kernel), ⟨by decide +kernel, by decide +kernel⟩, by decide +kernel⟩
theorem mf_X10_about : MF yX10_about cX10_about 2 (some .int) 1 := ⟨List.mem_of_getElem? (i := 1167) (by decide +kernel), List.mem_of_getElem? (i := 101) (by decide +kernel), ⟨by decide +kernel, by decide +kernel⟩, by decide +kernel⟩
theorem mf_X10_press : MF yX10_press cX10_press 2 (some .int) 1 := ⟨List.mem_of_getElem? (i := 1199) (by decide +kernel), List.mem_of_getElem? (i := 101) (by decide +kernel), ⟨by decide +kernel, by decide +kernel⟩, by decide +kernel⟩
theorem mf_X10_back : MF yX10_back cX10_back 1 (some .int) 0 := ⟨List.mem_of_getElem? (i := 1203) (by decide +kernel), List.mem_of_getElem? (i := 101) (by decide +kernel), ⟨by decide +kernel, by decide +kernel⟩, by decide +kernel⟩
theorem mf_X10_wipe : MF yX10_wipe cX10_wipe 2 (some .int) 0 := ⟨List.mem_of_getElem? (i := 1207) (by decide +kernel), List.mem_of_getElem? (i := 101) (by decide +kernel), ⟨by decide +kernel, by decide +kernel⟩, by decide +kernel⟩
theorem mf_X10_typed : MF yX10_typed cX10_typed 2 (some .int) 1 := ⟨List.mem_of_getElem? (i := 1211) (by decide +kernel), List.mem_of_getElem? (i := 101) (by decide +kernel), ⟨by decide +kernel, by decide +kernel⟩, by decide +kernel⟩
theorem mf_X10_isChosen : MF yX10_isChosen cX10_isChosen 4 (some .boolean) 1 := ⟨List.mem_of_getElem? (i := 1219) (by decide +kernel), List.mem_of_getElem? (i := 101) (by decide +kernel), ⟨by decide +kernel, by decide +kernel⟩, by decide +kernel⟩
theorem mf_X10_chosenAhead : MF yX10_chosenAhead cX10_chosenAhead 4 (some .int) 1 := ⟨List.mem_of_getElem? (i := 1223) (by decide +kernel), List.mem_of_getElem? (i := 101) (by decide +kernel), ⟨by decide +kernel, by decide +kernel⟩, by decide +kernel⟩
theorem mf_X10_choice : MF yX10_choice cX10_choice 3 (some .int) 1 := ⟨List.mem_of_getElem? (i := 1215) (by decide +kernel), List.mem_of_getElem? (i := 101) (by decide +kernel), ⟨by decide +kernel, by decide +kernel⟩, by decide +kernel⟩
theorem mf_X10_fitsAt : MF yX10_fitsAt cX10_fitsAt 5 (some .boolean) 2 := ⟨List.mem_of_getElem? (i := 1244) (by decide +kernel), List.mem_of_getElem? (i := 101) (by decide +kernel), ⟨by decide +kernel, by decide +kernel⟩, by decide +kernel⟩
theorem mf_X10_takesPiece : MF yX10_takesPiece cX10_takesPiece 5 none 3 := ⟨List.mem_of_getElem? (i := 1239) (by decide +kernel), List.mem_of_getElem? (i := 101) (by decide +kernel), ⟨by decide +kernel, by decide +kernel⟩, by decide +kernel⟩
theorem mf_X10_laySpellings : MF yX10_laySpellings cX10_laySpellings 3 none 0 := ⟨List.mem_of_getElem? (i := 1235) (by decide +kernel), List.mem_of_getElem? (i := 101) (by decide +kernel), ⟨by decide +kernel, by decide +kernel⟩, by decide +kernel⟩
theorem mf_X10_spellingNow : MF yX10_spellingNow cX10_spellingNow 2 (some .int) 1 := ⟨List.mem_of_getElem? (i := 1231) (by decide +kernel), List.mem_of_getElem? (i := 101) (by decide +kernel), ⟨by decide +kernel, by decide +kernel⟩, by decide +kernel⟩
theorem mf_X10_spelling : MF yX10_spelling cX10_spelling 2 (some .int) 1 := ⟨List.mem_of_getElem? (i := 1227) (by decide +kernel), List.mem_of_getElem? (i := 101) (by decide +kernel), ⟨by decide +kernel, by decide +kernel⟩, by decide +kernel⟩
theorem mf_X10_bestName : MF yX10_bestName cX10_bestName 3 (some .int) 1 := ⟨List.mem_of_getElem? (i := 1256) (by decide +kernel), List.mem_of_getElem? (i := 101) (by decide +kernel), ⟨by decide +kernel, by decide +kernel⟩, by decide +kernel⟩
theorem mf_X10_pieceNow : MF yX10_pieceNow cX10_pieceNow 5 (some .int) 1 := ⟨List.mem_of_getElem? (i := 1252) (by decide +kernel), List.mem_of_getElem? (i := 101) (by decide +kernel), ⟨by decide +kernel, by decide +kernel⟩, by decide +kernel⟩
theorem mf_X10_piece : MF yX10_piece cX10_piece 2 (some .int) 1 := ⟨List.mem_of_getElem? (i := 1248) (by decide +kernel), List.mem_of_getElem? (i := 101) (by decide +kernel), ⟨by decide +kernel, by decide +kernel⟩, by decide +kernel⟩
theorem mf_X10_isPathChanged : MF yX10_isPathChanged cX10_isPathChanged 4 (some .boolean) 1 := ⟨List.mem_of_getElem? (i := 1268) (by decide +kernel), List.mem_of_getElem? (i := 101) (by decide +kernel), ⟨by decide +kernel, by decide +kernel⟩, by decide +kernel⟩
theorem mf_X10_takeMenu : MF yX10_takeMenu cX10_takeMenu 4 (some .int) 1 := ⟨List.mem_of_getElem? (i := 1264) (by decide +kernel), List.mem_of_getElem? (i := 101) (by decide +kernel), ⟨by decide +kernel, by decide +kernel⟩, by decide +kernel⟩
theorem mf_X10_costNow : MF yX10_costNow cX10_costNow 3 (some .int) 0 := ⟨List.mem_of_getElem? (i := 1272) (by decide +kernel), List.mem_of_getElem? (i := 101) (by decide +kernel), ⟨by decide +kernel, by decide +kernel⟩, by decide +kernel⟩
theorem mf_X10_leastCost : MF yX10_leastCost cX10_leastCost 1 (some .int) 0 := ⟨List.mem_of_getElem? (i := 1280) (by decide +kernel), List.mem_of_getElem? (i := 101) (by decide +kernel), ⟨by decide +kernel, by decide +kernel⟩, by decide +kernel⟩
theorem mf_X10_build : MF yX10_build cX10_build 2 (some .int) 1 := ⟨List.mem_of_getElem? (i := 1260) (by decide +kernel), List.mem_of_getElem? (i := 101) (by decide +kernel), ⟨by decide +kernel, by decide +kernel⟩, by decide +kernel⟩
theorem mf_X10_tend : MF yX10_tend cX10_tend 3 (some .int) 1 := ⟨List.mem_of_getElem? (i := 1276) (by decide +kernel), List.mem_of_getElem? (i := 101) (by decide +kernel), ⟨by decide +kernel, by decide +kernel⟩, by decide +kernel⟩
theorem mf_X10_path : MF yX10_path cX10_path 3 (some .int) 2 := ⟨List.mem_of_getElem? (i := 1284) (by decide +kernel), List.mem_of_getElem? (i := 101) (by decide +kernel), ⟨by decide +kernel, by decide +kernel⟩, by decide +kernel⟩
theorem mf_X10_layAsked : MF yX10_layAsked cX10_layAsked 6 (some .boolean) 1 := ⟨List.mem_of_getElem? (i := 1292) (by decide +kernel), List.mem_of_getElem? (i := 101) (by decide +kernel), ⟨by decide +kernel, by decide +kernel⟩, by decide +kernel⟩
theorem mf_X10_isLed : MF yX10_isLed cX10_isLed 4 (some .boolean) 1 := ⟨List.mem_of_getElem? (i := 1296) (by decide +kernel), List.mem_of_getElem? (i := 101) (by decide +kernel), ⟨by decide +kernel, by decide +kernel⟩, by decide +kernel⟩
theorem mf_X10_leads : MF yX10_leads cX10_leads 5 (some .int) 1 := ⟨List.mem_of_getElem? (i := 1288) (by decide +kernel), List.mem_of_getElem? (i := 101) (by decide +kernel), ⟨by decide +kernel, by decide +kernel⟩, by decide +kernel⟩
theorem mf_X10_longest : MF yX10_longest cX10_longest 3 (some .int) 0 := ⟨List.mem_of_getElem? (i := 1308) (by decide +kernel), List.mem_of_getElem? (i := 101) (by decide +kernel), ⟨by decide +kernel, by decide +kernel⟩, by decide +kernel⟩
theorem mf_X10_isSamePath : MF yX10_isSamePath cX10_isSamePath 6 (some .boolean) 3 := ⟨List.mem_of_getElem? (i := 1316) (by decide +kernel), List.mem_of_getElem? (i := 101) (by decide +kernel), ⟨by decide +kernel, by decide +kernel⟩, by decide +kernel⟩
theorem mf_X10_menusMany : MF yX10_menusMany cX10_menusMany 4 (some .int) 0 := ⟨List.mem_of_getElem? (i := 1312) (by decide +kernel), List.mem_of_getElem? (i := 101) (by decide +kernel), ⟨by decide +kernel, by decide +kernel⟩, by decide +kernel⟩
theorem mf_X10_wholeParts : MF yX10_wholeParts cX10_wholeParts 3 (some .int) 0 := ⟨List.mem_of_getElem? (i := 1320) (by decide +kernel), List.mem_of_getElem? (i := 101) (by decide +kernel), ⟨by decide +kernel, by decide +kernel⟩, by decide +kernel⟩
theorem mf_X10_menuNow : MF yX10_menuNow cX10_menuNow 2 (some .int) 1 := ⟨List.mem_of_getElem? (i := 1304) (by decide +kernel), List.mem_of_getElem? (i := 101) (by decide +kernel), ⟨by decide +kernel, by decide +kernel⟩, by decide +kernel⟩
theorem mf_X10_menu : MF yX10_menu cX10_menu 2 (some .int) 1 := ⟨List.mem_of_getElem? (i := 1300) (by decide +kernel), List.mem_of_getElem? (i := 101) (by decide +kernel), ⟨by decide +kernel, by decide +kernel⟩, by decide +kernel⟩
theorem mf_X10_howMany : MF yX10_howMany cX10_howMany 2 (some .int) 1 := ⟨List.mem_of_getElem? (i := 1328) (by decide +kernel), List.mem_of_getElem? (i := 101) (by decide +kernel), ⟨by decide +kernel, by decide +kernel⟩, by decide +kernel⟩
theorem mf_X10_count : MF yX10_count cX10_count 2 (some .int) 1 := ⟨List.mem_of_getElem? (i := 1324) (by decide +kernel), List.mem_of_getElem? (i := 101) (by decide +kernel), ⟨by decide +kernel, by decide +kernel⟩, by decide +kernel⟩
theorem mf_X10_mix : MF yX10_mix cX10_mix 3 none 1 := ⟨List.mem_of_getElem? (i := 1337) (by decide +kernel), List.mem_of_getElem? (i := 101) (by decide +kernel), ⟨by decide +kernel, by decide +kernel⟩, by decide +kernel⟩
theorem mf_X10_mixName : MF yX10_mixName cX10_mixName 3 none 1 := ⟨List.mem_of_getElem? (i := 1342) (by decide +kernel), List.mem_of_getElem? (i := 101) (by decide +kernel), ⟨by decide +kernel, by decide +kernel⟩, by decide +kernel⟩
theorem mf_X10_mixTyped : MF yX10_mixTyped cX10_mixTyped 2 none 0 := ⟨List.mem_of_getElem? (i := 1346) (by decide +kernel), List.mem_of_getElem? (i := 101) (by decide +kernel), ⟨by decide +kernel, by decide +kernel⟩, by decide +kernel⟩
theorem mf_X10_mixMenu : MF yX10_mixMenu cX10_mixMenu 3 none 0 := ⟨List.mem_of_getElem? (i := 1351) (by decide +kernel), List.mem_of_getElem? (i := 101) (by decide +kernel), ⟨by decide +kernel, by decide +kernel⟩, by decide +kernel⟩
theorem mf_X10_digest : MF yX10_digest cX10_digest 2 (some .long) 0 := ⟨List.mem_of_getElem? (i := 1332) (by decide +kernel), List.mem_of_getElem? (i := 101) (by decide +kernel), ⟨by decide +kernel, by decide +kernel⟩, by decide +kernel⟩
theorem m_0 : Cond.selects RX3 yX3_fitsFrequency yX3_fitsFrequency ∈ lw_tbl := List.mem_of_getElem? (i := 0) (by decide +kernel)
theorem m_1 : Cond.selects RX3 yX3_frequencyOf yX3_frequencyOf ∈ lw_tbl := List.mem_of_getElem? (i := 1) (by decide +kernel)
theorem m_2 : Cond.selects RX3 yX3_fitsName yX3_fitsName ∈ lw_tbl := List.mem_of_getElem? (i := 2) (by decide +kernel)
theorem m_3 : Cond.selects RX3 yX3_endsName yX3_endsName ∈ lw_tbl := List.mem_of_getElem? (i := 3) (by decide +kernel)
theorem m_4 : Cond.selects RX3 yX3_isListed yX3_isListed ∈ lw_tbl := List.mem_of_getElem? (i := 4) (by decide +kernel)
theorem m_5 : Cond.selects RX3 yX3_isSameText yX3_isSameText ∈ lw_tbl := List.mem_of_getElem? (i := 5) (by decide +kernel)
theorem m_6 : Cond.selects RX9 yX9_isAnyItemKnown yX9_isAnyItemKnown ∈ lw_tbl := List.mem_of_getElem? (i := 6) (by decide +kernel)
theorem m_7 : Cond.selects RX7 yX7_placeOf yX7_placeOf ∈ lw_tbl := List.mem_of_getElem? (i := 7) (by decide +kernel)
theorem m_8 : Cond.selects RX7 yX7_get yX7_get ∈ lw_tbl := List.mem_of_getElem? (i := 8) (by decide +kernel)
theorem m_9 : Cond.selects RX0 yX0_twinsBelow yX0_twinsBelow ∈ lw_tbl := List.mem_of_getElem? (i := 9) (by decide +kernel)
theorem m_10 : Cond.selects RX0 yX0_areTwins yX0_areTwins ∈ lw_tbl := List.mem_of_getElem? (i := 10) (by decide +kernel)
theorem m_11 : Cond.selects RX4 yX4_has yX4_has ∈ lw_tbl := List.mem_of_getElem? (i := 11) (by decide +kernel)
theorem m_12 : Cond.selects RX9 yX9_optimal yX9_optimal ∈ lw_tbl := List.mem_of_getElem? (i := 12) (by decide +kernel)
theorem m_13 : Cond.selects RX5 yX5_planRun yX5_planRun ∈ lw_tbl := List.mem_of_getElem? (i := 13) (by decide +kernel)
theorem m_14 : Cond.selects RX5 yX5_planParts yX5_planParts ∈ lw_tbl := List.mem_of_getElem? (i := 14) (by decide +kernel)
theorem m_15 : Cond.selects RX5 yX5_layPath yX5_layPath ∈ lw_tbl := List.mem_of_getElem? (i := 15) (by decide +kernel)
theorem m_16 : Cond.selects RX0 yX0_placeInList yX0_placeInList ∈ lw_tbl := List.mem_of_getElem? (i := 16) (by decide +kernel)
theorem m_17 : Cond.selects RX6 yX6_studyDigit yX6_studyDigit ∈ lw_tbl := List.mem_of_getElem? (i := 17) (by decide +kernel)
theorem m_18 : Cond.selects RX6 yX6_studyName yX6_studyName ∈ lw_tbl := List.mem_of_getElem? (i := 18) (by decide +kernel)
theorem m_19 : Cond.selects RX6 yX6_layBest yX6_layBest ∈ lw_tbl := List.mem_of_getElem? (i := 19) (by decide +kernel)
theorem m_20 : Cond.selects RX6 yX6_bestNameAt yX6_bestNameAt ∈ lw_tbl := List.mem_of_getElem? (i := 20) (by decide +kernel)
theorem m_21 : Cond.selects RX6 yX6_keepsBest yX6_keepsBest ∈ lw_tbl := List.mem_of_getElem? (i := 21) (by decide +kernel)
theorem m_22 : Cond.selects RX9 yX9_adoptSpare yX9_adoptSpare ∈ lw_tbl := List.mem_of_getElem? (i := 22) (by decide +kernel)
theorem m_23 : Cond.selects RX4 yX4_hasSamePath yX4_hasSamePath ∈ lw_tbl := List.mem_of_getElem? (i := 23) (by decide +kernel)
theorem m_24 : Cond.selects RX4 yX4_splitDecimals yX4_splitDecimals ∈ lw_tbl := List.mem_of_getElem? (i := 24) (by decide +kernel)
theorem m_25 : Cond.selects RX4 yX4_beginsAsWanted yX4_beginsAsWanted ∈ lw_tbl := List.mem_of_getElem? (i := 25) (by decide +kernel)
theorem m_26 : Cond.selects RX9 yX9_mixNames yX9_mixNames ∈ lw_tbl := List.mem_of_getElem? (i := 26) (by decide +kernel)
theorem m_27 : Cond.selects RX9 yX9_mixPaths yX9_mixPaths ∈ lw_tbl := List.mem_of_getElem? (i := 27) (by decide +kernel)
theorem m_28 : Cond.selects RX10 yX10_read yX10_read ∈ lw_tbl := List.mem_of_getElem? (i := 28) (by decide +kernel)
theorem m_29 : Cond.selects RX10 yX10_takes yX10_takes ∈ lw_tbl := List.mem_of_getElem? (i := 29) (by decide +kernel)
theorem m_30 : Cond.selects RX10 yX10_takesName yX10_takesName ∈ lw_tbl := List.mem_of_getElem? (i := 30) (by decide +kernel)
theorem m_31 : Cond.selects RX10 yX10_isNewTwice yX10_isNewTwice ∈ lw_tbl := List.mem_of_getElem? (i := 31) (by decide +kernel)
theorem m_32 : Cond.selects RX10 yX10_goes yX10_goes ∈ lw_tbl := List.mem_of_getElem? (i := 32) (by decide +kernel)
theorem m_33 : Cond.selects RX10 yX10_takesUse yX10_takesUse ∈ lw_tbl := List.mem_of_getElem? (i := 33) (by decide +kernel)
theorem m_34 : Cond.selects RX10 yX10_isThere yX10_isThere ∈ lw_tbl := List.mem_of_getElem? (i := 34) (by decide +kernel)
theorem m_35 : Cond.selects RX10 yX10_compareNew yX10_compareNew ∈ lw_tbl := List.mem_of_getElem? (i := 35) (by decide +kernel)
theorem m_36 : Cond.selects RX10 yX10_comes yX10_comes ∈ lw_tbl := List.mem_of_getElem? (i := 36) (by decide +kernel)
theorem m_37 : Cond.selects RX10 yX10_moveName yX10_moveName ∈ lw_tbl := List.mem_of_getElem? (i := 37) (by decide +kernel)
theorem m_38 : Cond.selects RX10 yX10_isDial yX10_isDial ∈ lw_tbl := List.mem_of_getElem? (i := 38) (by decide +kernel)
theorem m_39 : Cond.selects RX10 yX10_isName yX10_isName ∈ lw_tbl := List.mem_of_getElem? (i := 39) (by decide +kernel)
theorem m_40 : Cond.selects RX10 yX10_nameNow yX10_nameNow ∈ lw_tbl := List.mem_of_getElem? (i := 40) (by decide +kernel)
theorem m_41 : Cond.selects RX10 yX10_twins yX10_twins ∈ lw_tbl := List.mem_of_getElem? (i := 41) (by decide +kernel)
theorem m_42 : Cond.selects RX10 yX10_isTwin yX10_isTwin ∈ lw_tbl := List.mem_of_getElem? (i := 42) (by decide +kernel)
theorem m_43 : Cond.selects RX10 yX10_begins yX10_begins ∈ lw_tbl := List.mem_of_getElem? (i := 43) (by decide +kernel)
theorem m_44 : Cond.selects RX10 yX10_codeAt yX10_codeAt ∈ lw_tbl := List.mem_of_getElem? (i := 44) (by decide +kernel)
theorem m_45 : Cond.selects RX10 yX10_telling yX10_telling ∈ lw_tbl := List.mem_of_getElem? (i := 45) (by decide +kernel)
theorem m_46 : Cond.selects RX10 yX10_presses yX10_presses ∈ lw_tbl := List.mem_of_getElem? (i := 46) (by decide +kernel)
theorem m_47 : Cond.selects RX10 yX10_placeIn yX10_placeIn ∈ lw_tbl := List.mem_of_getElem? (i := 47) (by decide +kernel)
theorem m_48 : Cond.selects RX10 yX10_isAhead yX10_isAhead ∈ lw_tbl := List.mem_of_getElem? (i := 48) (by decide +kernel)
theorem m_49 : Cond.selects RX10 yX10_layMenu yX10_layMenu ∈ lw_tbl := List.mem_of_getElem? (i := 49) (by decide +kernel)
theorem m_50 : Cond.selects RX10 yX10_layCosts yX10_layCosts ∈ lw_tbl := List.mem_of_getElem? (i := 50) (by decide +kernel)
theorem m_51 : Cond.selects RX10 yX10_layStretch yX10_layStretch ∈ lw_tbl := List.mem_of_getElem? (i := 51) (by decide +kernel)
theorem m_52 : Cond.selects RX10 yX10_bestParts yX10_bestParts ∈ lw_tbl := List.mem_of_getElem? (i := 52) (by decide +kernel)
theorem m_53 : Cond.selects RX10 yX10_partsAt yX10_partsAt ∈ lw_tbl := List.mem_of_getElem? (i := 53) (by decide +kernel)
theorem m_54 : Cond.selects RX10 yX10_costAt yX10_costAt ∈ lw_tbl := List.mem_of_getElem? (i := 54) (by decide +kernel)
theorem m_55 : Cond.selects RX10 yX10_usesOf yX10_usesOf ∈ lw_tbl := List.mem_of_getElem? (i := 55) (by decide +kernel)
theorem m_56 : Cond.selects RX10 yX10_layPath yX10_layPath ∈ lw_tbl := List.mem_of_getElem? (i := 56) (by decide +kernel)
theorem m_57 : Cond.selects RX10 yX10_partsOf yX10_partsOf ∈ lw_tbl := List.mem_of_getElem? (i := 57) (by decide +kernel)
theorem m_58 : Cond.selects RX10 yX10_firstCut yX10_firstCut ∈ lw_tbl := List.mem_of_getElem? (i := 58) (by decide +kernel)
theorem m_59 : Cond.selects RX10 yX10_aboutNow yX10_aboutNow ∈ lw_tbl := List.mem_of_getElem? (i := 59) (by decide +kernel)
theorem m_60 : Cond.selects RX10 yX10_usesAll yX10_usesAll ∈ lw_tbl := List.mem_of_getElem? (i := 60) (by decide +kernel)
theorem m_61 : Cond.selects RX10 yX10_withTwins yX10_withTwins ∈ lw_tbl := List.mem_of_getElem? (i := 61) (by decide +kernel)
theorem m_62 : Cond.selects RX10 yX10_codesMany yX10_codesMany ∈ lw_tbl := List.mem_of_getElem? (i := 62) (by decide +kernel)
theorem m_63 : Cond.selects RX10 yX10_mostTelling yX10_mostTelling ∈ lw_tbl := List.mem_of_getElem? (i := 63) (by decide +kernel)
theorem m_64 : Cond.selects RX10 yX10_pressesAll yX10_pressesAll ∈ lw_tbl := List.mem_of_getElem? (i := 64) (by decide +kernel)
theorem m_65 : Cond.selects RX10 yX10_digitsAll yX10_digitsAll ∈ lw_tbl := List.mem_of_getElem? (i := 65) (by decide +kernel)
theorem m_66 : Cond.selects RX10 yX10_isChosen yX10_isChosen ∈ lw_tbl := List.mem_of_getElem? (i := 66) (by decide +kernel)
theorem m_67 : Cond.selects RX10 yX10_chosenAhead yX10_chosenAhead ∈ lw_tbl := List.mem_of_getElem? (i := 67) (by decide +kernel)
theorem m_68 : Cond.selects RX10 yX10_spellingNow yX10_spellingNow ∈ lw_tbl := List.mem_of_getElem? (i := 68) (by decide +kernel)
theorem m_69 : Cond.selects RX10 yX10_laySpellings yX10_laySpellings ∈ lw_tbl := List.mem_of_getElem? (i := 69) (by decide +kernel)
theorem m_70 : Cond.selects RX10 yX10_takesPiece yX10_takesPiece ∈ lw_tbl := List.mem_of_getElem? (i := 70) (by decide +kernel)
theorem m_71 : Cond.selects RX10 yX10_fitsAt yX10_fitsAt ∈ lw_tbl := List.mem_of_getElem? (i := 71) (by decide +kernel)
theorem m_72 : Cond.selects RX10 yX10_pieceNow yX10_pieceNow ∈ lw_tbl := List.mem_of_getElem? (i := 72) (by decide +kernel)
theorem m_73 : Cond.selects RX10 yX10_bestName yX10_bestName ∈ lw_tbl := List.mem_of_getElem? (i := 73) (by decide +kernel)
theorem m_74 : Cond.selects RX10 yX10_takeMenu yX10_takeMenu ∈ lw_tbl := List.mem_of_getElem? (i := 74) (by decide +kernel)
theorem m_75 : Cond.selects RX10 yX10_isPathChanged yX10_isPathChanged ∈ lw_tbl := List.mem_of_getElem? (i := 75) (by decide +kernel)
theorem m_76 : Cond.selects RX10 yX10_costNow yX10_costNow ∈ lw_tbl := List.mem_of_getElem? (i := 76) (by decide +kernel)
theorem m_77 : Cond.selects RX10 yX10_leastCost yX10_leastCost ∈ lw_tbl := List.mem_of_getElem? (i := 77) (by decide +kernel)
theorem m_78 : Cond.selects RX10 yX10_layAsked yX10_layAsked ∈ lw_tbl := List.mem_of_getElem? (i := 78) (by decide +kernel)
theorem m_79 : Cond.selects RX10 yX10_isLed yX10_isLed ∈ lw_tbl := List.mem_of_getElem? (i := 79) (by decide +kernel)
theorem m_80 : Cond.selects RX10 yX10_menuNow yX10_menuNow ∈ lw_tbl := List.mem_of_getElem? (i := 80) (by decide +kernel)
theorem m_81 : Cond.selects RX10 yX10_longest yX10_longest ∈ lw_tbl := List.mem_of_getElem? (i := 81) (by decide +kernel)
theorem m_82 : Cond.selects RX10 yX10_menusMany yX10_menusMany ∈ lw_tbl := List.mem_of_getElem? (i := 82) (by decide +kernel)
theorem m_83 : Cond.selects RX10 yX10_isSamePath yX10_isSamePath ∈ lw_tbl := List.mem_of_getElem? (i := 83) (by decide +kernel)
theorem m_84 : Cond.selects RX10 yX10_wholeParts yX10_wholeParts ∈ lw_tbl := List.mem_of_getElem? (i := 84) (by decide +kernel)
theorem m_85 : Cond.selects RX10 yX10_howMany yX10_howMany ∈ lw_tbl := List.mem_of_getElem? (i := 85) (by decide +kernel)
theorem m_86 : Cond.selects RX10 yX10_mix yX10_mix ∈ lw_tbl := List.mem_of_getElem? (i := 86) (by decide +kernel)
theorem m_87 : Cond.selects RX10 yX10_mixName yX10_mixName ∈ lw_tbl := List.mem_of_getElem? (i := 87) (by decide +kernel)
theorem m_88 : Cond.selects RX10 yX10_mixTyped yX10_mixTyped ∈ lw_tbl := List.mem_of_getElem? (i := 88) (by decide +kernel)
theorem m_89 : Cond.selects RX10 yX10_mixMenu yX10_mixMenu ∈ lw_tbl := List.mem_of_getElem? (i := 89) (by decide +kernel)
theorem m_92 : Cond.initialized RX8 ∈ lw_tbl := List.mem_of_getElem? (i := 92) (by decide +kernel)
theorem m_94 : Cond.initialized RX2 ∈ lw_tbl := List.mem_of_getElem? (i := 94) (by decide +kernel)
theorem m_95 : Cond.initialized RX7 ∈ lw_tbl := List.mem_of_getElem? (i := 95) (by decide +kernel)
theorem m_96 : Cond.initialized RX3 ∈ lw_tbl := List.mem_of_getElem? (i := 96) (by decide +kernel)
theorem m_97 : Cond.initialized RX0 ∈ lw_tbl := List.mem_of_getElem? (i := 97) (by decide +kernel)
theorem m_98 : Cond.initialized RX6 ∈ lw_tbl := List.mem_of_getElem? (i := 98) (by decide +kernel)
theorem m_99 : Cond.initialized RX5 ∈ lw_tbl := List.mem_of_getElem? (i := 99) (by decide +kernel)
theorem m_100 : Cond.initialized RX4 ∈ lw_tbl := List.mem_of_getElem? (i := 100) (by decide +kernel)
theorem m_102 : Cond.initialized RX1 ∈ lw_tbl := List.mem_of_getElem? (i := 102) (by decide +kernel)
theorem m_110 : Cond.methodLink RX9 3 objectInit ∈ lw_tbl := List.mem_of_getElem? (i := 110) (by decide +kernel)
theorem m_113 : Cond.classLink RX9 9 RX8 ∈ lw_tbl := List.mem_of_getElem? (i := 113) (by decide +kernel)
theorem m_114 : Cond.instantiable RX8 2 ∈ lw_tbl := List.mem_of_getElem? (i := 114) (by decide +kernel)
theorem m_115 : Cond.methodLink RX9 11 yX8_init ∈ lw_tbl := List.mem_of_getElem? (i := 115) (by decide +kernel)
theorem m_116 : Cond.instanceMethod yX8_init ∈ lw_tbl := List.mem_of_getElem? (i := 116) (by decide +kernel)
theorem m_118 : Cond.methodLink RX8 3 objectInit ∈ lw_tbl := List.mem_of_getElem? (i := 118) (by decide +kernel)
theorem m_119 : Cond.methodLink RX8 9 yJ9_max_7cf53 ∈ lw_tbl := List.mem_of_getElem? (i := 119) (by decide +kernel)
theorem m_122 : Cond.fieldLink RX8 15 "DialMenus$Row" "items" "[I" ∈ lw_tbl := List.mem_of_getElem? (i := 122) (by decide +kernel)
theorem m_123 : Cond.fieldLink RX8 21 "DialMenus$Row" "size" "I" ∈ lw_tbl := List.mem_of_getElem? (i := 123) (by decide +kernel)
theorem m_130 : Cond.classLink RX9 21 RX2 ∈ lw_tbl := List.mem_of_getElem? (i := 130) (by decide +kernel)
theorem m_131 : Cond.instantiable RX2 2 ∈ lw_tbl := List.mem_of_getElem? (i := 131) (by decide +kernel)
theorem m_132 : Cond.methodLinkNest RX9 23 yX2_init "DialMenus" ∈ lw_tbl := List.mem_of_getElem? (i := 132) (by decide +kernel)
theorem m_133 : Cond.instanceMethod yX2_init ∈ lw_tbl := List.mem_of_getElem? (i := 133) (by decide +kernel)
theorem m_135 : Cond.methodLink RX2 3 objectInit ∈ lw_tbl := List.mem_of_getElem? (i := 135) (by decide +kernel)
theorem m_136 : Cond.fieldLinkNest RX2 9 "DialMenus" "FIRST_KEYPAD" "[I" "DialMenus" ∈ lw_tbl := List.mem_of_getElem? (i := 136) (by decide +kernel)
theorem m_138 : Cond.methodLink RX2 13 ⟨"[I", "clone", "()Ljava/lang/Object;"⟩ ∈ lw_tbl := List.mem_of_getElem? (i := 138) (by decide +kernel)
theorem m_140 : Cond.native ⟨"java/lang/Object", "clone", "()Ljava/lang/Object;"⟩ ∈ lw_tbl := List.mem_of_getElem? (i := 140) (by decide +kernel)
theorem m_141 : Cond.instanceMethod ⟨"java/lang/Object", "clone", "()Ljava/lang/Object;"⟩ ∈ lw_tbl := List.mem_of_getElem? (i := 141) (by decide +kernel)
theorem m_142 : Cond.selects "[I" ⟨"[I", "clone", "()Ljava/lang/Object;"⟩ ⟨"java/lang/Object", "clone", "()Ljava/lang/Object;"⟩ ∈ lw_tbl := List.mem_of_getElem? (i := 142) (by decide +kernel)
theorem m_144 : Cond.classLink RX2 14 "[I" ∈ lw_tbl := List.mem_of_getElem? (i := 144) (by decide +kernel)
theorem m_145 : Cond.fieldLink RX2 18 "DialMenus$Keypad" "digits" "[I" ∈ lw_tbl := List.mem_of_getElem? (i := 145) (by decide +kernel)
theorem m_146 : Cond.fieldLink RX2 23 "DialMenus$Keypad" "draft" "[I" ∈ lw_tbl := List.mem_of_getElem? (i := 146) (by decide +kernel)
theorem m_152 : Cond.classLink RX9 28 RX7 ∈ lw_tbl := List.mem_of_getElem? (i := 152) (by decide +kernel)
theorem m_153 : Cond.instantiable RX7 2 ∈ lw_tbl := List.mem_of_getElem? (i := 153) (by decide +kernel)
theorem m_154 : Cond.methodLinkNest RX9 30 yX7_init "DialMenus" ∈ lw_tbl := List.mem_of_getElem? (i := 154) (by decide +kernel)
theorem m_155 : Cond.instanceMethod yX7_init ∈ lw_tbl := List.mem_of_getElem? (i := 155) (by decide +kernel)
theorem m_157 : Cond.methodLink RX7 3 objectInit ∈ lw_tbl := List.mem_of_getElem? (i := 157) (by decide +kernel)
theorem m_158 : Cond.classLink RX7 9 RX1 ∈ lw_tbl := List.mem_of_getElem? (i := 158) (by decide +kernel)
theorem m_160 : Cond.fieldLink RX7 11 "DialMenus$Roster" "entries" "[LDialMenus$Entry;" ∈ lw_tbl := List.mem_of_getElem? (i := 160) (by decide +kernel)
theorem m_161 : Cond.fieldLink RX7 17 "DialMenus$Roster" "size" "I" ∈ lw_tbl := List.mem_of_getElem? (i := 161) (by decide +kernel)
theorem m_167 : Cond.classLink RX9 35 RX3 ∈ lw_tbl := List.mem_of_getElem? (i := 167) (by decide +kernel)
theorem m_168 : Cond.instantiable RX3 6 ∈ lw_tbl := List.mem_of_getElem? (i := 168) (by decide +kernel)
theorem m_169 : Cond.methodLinkNest RX9 37 yX3_init "DialMenus" ∈ lw_tbl := List.mem_of_getElem? (i := 169) (by decide +kernel)
theorem m_170 : Cond.instanceMethod yX3_init ∈ lw_tbl := List.mem_of_getElem? (i := 170) (by decide +kernel)
theorem m_172 : Cond.methodLink RX3 3 objectInit ∈ lw_tbl := List.mem_of_getElem? (i := 172) (by decide +kernel)
theorem m_173 : Cond.fieldLink RX3 9 "DialMenus$ListReader" "starts" "[I" ∈ lw_tbl := List.mem_of_getElem? (i := 173) (by decide +kernel)
theorem m_174 : Cond.fieldLink RX3 15 "DialMenus$ListReader" "lengths" "[I" ∈ lw_tbl := List.mem_of_getElem? (i := 174) (by decide +kernel)
theorem m_175 : Cond.fieldLink RX3 18 "DialMenus$ListReader" "frequencies" "[I" ∈ lw_tbl := List.mem_of_getElem? (i := 175) (by decide +kernel)
theorem m_176 : Cond.fieldLink RX3 21 "DialMenus$ListReader" "items" "I" ∈ lw_tbl := List.mem_of_getElem? (i := 176) (by decide +kernel)
theorem m_177 : Cond.fieldLink RX3 44 "DialMenus$ListReader" "start" "I" ∈ lw_tbl := List.mem_of_getElem? (i := 177) (by decide +kernel)
theorem m_178 : Cond.fieldLink RX3 40 "DialMenus$ListReader" "inFrequency" "Z" ∈ lw_tbl := List.mem_of_getElem? (i := 178) (by decide +kernel)
theorem m_192 : Cond.classLink RX9 42 RX0 ∈ lw_tbl := List.mem_of_getElem? (i := 192) (by decide +kernel)
theorem m_193 : Cond.instantiable RX0 1 ∈ lw_tbl := List.mem_of_getElem? (i := 193) (by decide +kernel)
theorem m_194 : Cond.methodLinkNest RX9 44 yX0_init "DialMenus" ∈ lw_tbl := List.mem_of_getElem? (i := 194) (by decide +kernel)
theorem m_195 : Cond.instanceMethod yX0_init ∈ lw_tbl := List.mem_of_getElem? (i := 195) (by decide +kernel)
theorem m_197 : Cond.methodLink RX0 3 objectInit ∈ lw_tbl := List.mem_of_getElem? (i := 197) (by decide +kernel)
theorem m_198 : Cond.classLink RX0 9 RX8 ∈ lw_tbl := List.mem_of_getElem? (i := 198) (by decide +kernel)
theorem m_199 : Cond.methodLink RX0 11 yX8_init ∈ lw_tbl := List.mem_of_getElem? (i := 199) (by decide +kernel)
theorem m_200 : Cond.fieldLink RX0 14 "DialMenus$Choices" "listed" "LDialMenus$Row;" ∈ lw_tbl := List.mem_of_getElem? (i := 200) (by decide +kernel)
theorem m_204 : Cond.classLink RX9 49 RX6 ∈ lw_tbl := List.mem_of_getElem? (i := 204) (by decide +kernel)
theorem m_205 : Cond.instantiable RX6 5 ∈ lw_tbl := List.mem_of_getElem? (i := 205) (by decide +kernel)
theorem m_206 : Cond.methodLinkNest RX9 51 yX6_init "DialMenus" ∈ lw_tbl := List.mem_of_getElem? (i := 206) (by decide +kernel)
theorem m_207 : Cond.instanceMethod yX6_init ∈ lw_tbl := List.mem_of_getElem? (i := 207) (by decide +kernel)
theorem m_209 : Cond.methodLink RX6 3 objectInit ∈ lw_tbl := List.mem_of_getElem? (i := 209) (by decide +kernel)
theorem m_210 : Cond.classLink RX6 24 RX8 ∈ lw_tbl := List.mem_of_getElem? (i := 210) (by decide +kernel)
theorem m_211 : Cond.methodLink RX6 26 yX8_init ∈ lw_tbl := List.mem_of_getElem? (i := 211) (by decide +kernel)
theorem m_212 : Cond.fieldLink RX6 9 "DialMenus$Readings" "all" "[I" ∈ lw_tbl := List.mem_of_getElem? (i := 212) (by decide +kernel)
theorem m_213 : Cond.fieldLink RX6 15 "DialMenus$Readings" "fewestDigits" "[I" ∈ lw_tbl := List.mem_of_getElem? (i := 213) (by decide +kernel)
theorem m_214 : Cond.fieldLink RX6 18 "DialMenus$Readings" "withFewestDigits" "[I" ∈ lw_tbl := List.mem_of_getElem? (i := 214) (by decide +kernel)
theorem m_215 : Cond.fieldLink RX6 21 "DialMenus$Readings" "fewestPieces" "[I" ∈ lw_tbl := List.mem_of_getElem? (i := 215) (by decide +kernel)
theorem m_216 : Cond.fieldLink RX6 29 "DialMenus$Readings" "best" "LDialMenus$Row;" ∈ lw_tbl := List.mem_of_getElem? (i := 216) (by decide +kernel)
theorem m_228 : Cond.classLink RX9 56 RX5 ∈ lw_tbl := List.mem_of_getElem? (i := 228) (by decide +kernel)
theorem m_229 : Cond.instantiable RX5 4 ∈ lw_tbl := List.mem_of_getElem? (i := 229) (by decide +kernel)
theorem m_230 : Cond.methodLinkNest RX9 58 yX5_init "DialMenus" ∈ lw_tbl := List.mem_of_getElem? (i := 230) (by decide +kernel)
theorem m_231 : Cond.instanceMethod yX5_init ∈ lw_tbl := List.mem_of_getElem? (i := 231) (by decide +kernel)
theorem m_233 : Cond.methodLink RX5 3 objectInit ∈ lw_tbl := List.mem_of_getElem? (i := 233) (by decide +kernel)
theorem m_234 : Cond.classLink RX5 15 "[[I" ∈ lw_tbl := List.mem_of_getElem? (i := 234) (by decide +kernel)
theorem m_236 : Cond.fieldLink RX5 9 "DialMenus$Planner" "sumBefore" "[I" ∈ lw_tbl := List.mem_of_getElem? (i := 236) (by decide +kernel)
theorem m_237 : Cond.fieldLink RX5 17 "DialMenus$Planner" "costs" "[[I" ∈ lw_tbl := List.mem_of_getElem? (i := 237) (by decide +kernel)
theorem m_238 : Cond.fieldLink RX5 20 "DialMenus$Planner" "firstSizes" "[[I" ∈ lw_tbl := List.mem_of_getElem? (i := 238) (by decide +kernel)
theorem m_239 : Cond.fieldLink RX5 23 "DialMenus$Planner" "bestParts" "[I" ∈ lw_tbl := List.mem_of_getElem? (i := 239) (by decide +kernel)
theorem m_249 : Cond.classLink RX9 63 RX4 ∈ lw_tbl := List.mem_of_getElem? (i := 249) (by decide +kernel)
theorem m_250 : Cond.instantiable RX4 6 ∈ lw_tbl := List.mem_of_getElem? (i := 250) (by decide +kernel)
theorem m_251 : Cond.methodLinkNest RX9 65 yX4_init "DialMenus" ∈ lw_tbl := List.mem_of_getElem? (i := 251) (by decide +kernel)
theorem m_252 : Cond.instanceMethod yX4_init ∈ lw_tbl := List.mem_of_getElem? (i := 252) (by decide +kernel)
theorem m_254 : Cond.methodLink RX4 3 objectInit ∈ lw_tbl := List.mem_of_getElem? (i := 254) (by decide +kernel)
theorem m_255 : Cond.classLink RX4 9 "[[I" ∈ lw_tbl := List.mem_of_getElem? (i := 255) (by decide +kernel)
theorem m_256 : Cond.classLink RX4 20 RX8 ∈ lw_tbl := List.mem_of_getElem? (i := 256) (by decide +kernel)
theorem m_257 : Cond.methodLink RX4 22 yX8_init ∈ lw_tbl := List.mem_of_getElem? (i := 257) (by decide +kernel)
theorem m_258 : Cond.fieldLink RX4 11 "DialMenus$Menu" "steps" "[[I" ∈ lw_tbl := List.mem_of_getElem? (i := 258) (by decide +kernel)
theorem m_259 : Cond.fieldLink RX4 16 "DialMenus$Menu" "lengths" "[I" ∈ lw_tbl := List.mem_of_getElem? (i := 259) (by decide +kernel)
theorem m_260 : Cond.fieldLink RX4 25 "DialMenus$Menu" "wanted" "LDialMenus$Row;" ∈ lw_tbl := List.mem_of_getElem? (i := 260) (by decide +kernel)
theorem m_261 : Cond.fieldLink RX4 29 "DialMenus$Menu" "width" "I" ∈ lw_tbl := List.mem_of_getElem? (i := 261) (by decide +kernel)
theorem m_262 : Cond.fieldLink RX4 42 "DialMenus$Menu" "size" "I" ∈ lw_tbl := List.mem_of_getElem? (i := 262) (by decide +kernel)
theorem m_263 : Cond.fieldLink RX4 45 "DialMenus$Menu" "branchings" "I" ∈ lw_tbl := List.mem_of_getElem? (i := 263) (by decide +kernel)
theorem m_277 : Cond.fieldLink RX9 14 "DialMenus" "text" "LDialMenus$Row;" ∈ lw_tbl := List.mem_of_getElem? (i := 277) (by decide +kernel)
theorem m_278 : Cond.fieldLink RX9 18 "DialMenus" "input" "LDialMenus$Row;" ∈ lw_tbl := List.mem_of_getElem? (i := 278) (by decide +kernel)
theorem m_279 : Cond.fieldLink RX9 24 "DialMenus" "keypad" "LDialMenus$Keypad;" ∈ lw_tbl := List.mem_of_getElem? (i := 279) (by decide +kernel)
theorem m_280 : Cond.fieldLink RX9 31 "DialMenus" "roster" "LDialMenus$Roster;" ∈ lw_tbl := List.mem_of_getElem? (i := 280) (by decide +kernel)
theorem m_281 : Cond.fieldLink RX9 38 "DialMenus" "listReader" "LDialMenus$ListReader;" ∈ lw_tbl := List.mem_of_getElem? (i := 281) (by decide +kernel)
theorem m_282 : Cond.fieldLink RX9 45 "DialMenus" "choices" "LDialMenus$Choices;" ∈ lw_tbl := List.mem_of_getElem? (i := 282) (by decide +kernel)
theorem m_283 : Cond.fieldLink RX9 52 "DialMenus" "readings" "LDialMenus$Readings;" ∈ lw_tbl := List.mem_of_getElem? (i := 283) (by decide +kernel)
theorem m_284 : Cond.fieldLink RX9 59 "DialMenus" "planner" "LDialMenus$Planner;" ∈ lw_tbl := List.mem_of_getElem? (i := 284) (by decide +kernel)
theorem m_285 : Cond.fieldLink RX9 66 "DialMenus" "present" "LDialMenus$Menu;" ∈ lw_tbl := List.mem_of_getElem? (i := 285) (by decide +kernel)
theorem m_286 : Cond.fieldLink RX9 70 "DialMenus" "spare" "LDialMenus$Menu;" ∈ lw_tbl := List.mem_of_getElem? (i := 286) (by decide +kernel)
theorem m_287 : Cond.fieldLink RX9 115 "DialMenus" "hasMenu" "Z" ∈ lw_tbl := List.mem_of_getElem? (i := 287) (by decide +kernel)
theorem m_288 : Cond.fieldLink RX9 255 "DialMenus" "menusMade" "I" ∈ lw_tbl := List.mem_of_getElem? (i := 288) (by decide +kernel)
theorem m_289 : Cond.fieldLink RX9 119 "DialMenus" "listsRead" "I" ∈ lw_tbl := List.mem_of_getElem? (i := 289) (by decide +kernel)
theorem m_290 : Cond.fieldLink RX9 138 "DialMenus" "keypadsRead" "I" ∈ lw_tbl := List.mem_of_getElem? (i := 290) (by decide +kernel)
theorem m_291 : Cond.fieldLink RX9 148 "DialMenus" "namesRemoved" "I" ∈ lw_tbl := List.mem_of_getElem? (i := 291) (by decide +kernel)
theorem m_327 : Cond.methodLink RX9 73 yX8_isFull ∈ lw_tbl := List.mem_of_getElem? (i := 327) (by decide +kernel)
theorem m_328 : Cond.instanceMethod yX8_isFull ∈ lw_tbl := List.mem_of_getElem? (i := 328) (by decide +kernel)
theorem m_329 : Cond.selects RX8 yX8_isFull yX8_isFull ∈ lw_tbl := List.mem_of_getElem? (i := 329) (by decide +kernel)
theorem m_331 : Cond.methodLink RX9 77 yX8_add ∈ lw_tbl := List.mem_of_getElem? (i := 331) (by decide +kernel)
theorem m_332 : Cond.instanceMethod yX8_add ∈ lw_tbl := List.mem_of_getElem? (i := 332) (by decide +kernel)
theorem m_333 : Cond.selects RX8 yX8_add yX8_add ∈ lw_tbl := List.mem_of_getElem? (i := 333) (by decide +kernel)
theorem m_335 : Cond.methodLink RX8 25 yX8_isFull ∈ lw_tbl := List.mem_of_getElem? (i := 335) (by decide +kernel)
theorem m_336 : Cond.methodLink RX9 80 yX8_size ∈ lw_tbl := List.mem_of_getElem? (i := 336) (by decide +kernel)
theorem m_337 : Cond.instanceMethod yX8_size ∈ lw_tbl := List.mem_of_getElem? (i := 337) (by decide +kernel)
theorem m_338 : Cond.selects RX8 yX8_size yX8_size ∈ lw_tbl := List.mem_of_getElem? (i := 338) (by decide +kernel)
theorem m_344 : Cond.methodLink RX9 84 yX8_clear ∈ lw_tbl := List.mem_of_getElem? (i := 344) (by decide +kernel)
theorem m_345 : Cond.instanceMethod yX8_clear ∈ lw_tbl := List.mem_of_getElem? (i := 345) (by decide +kernel)
theorem m_346 : Cond.selects RX8 yX8_clear yX8_clear ∈ lw_tbl := List.mem_of_getElem? (i := 346) (by decide +kernel)
theorem m_352 : Cond.methodLink RX9 87 yX3_scan ∈ lw_tbl := List.mem_of_getElem? (i := 352) (by decide +kernel)
theorem m_353 : Cond.instanceMethod yX3_scan ∈ lw_tbl := List.mem_of_getElem? (i := 353) (by decide +kernel)
theorem m_354 : Cond.selects RX3 yX3_scan yX3_scan ∈ lw_tbl := List.mem_of_getElem? (i := 354) (by decide +kernel)
theorem m_356 : Cond.methodLink RX3 47 yX8_size ∈ lw_tbl := List.mem_of_getElem? (i := 356) (by decide +kernel)
theorem m_357 : Cond.methodLink RX3 53 yX8_get ∈ lw_tbl := List.mem_of_getElem? (i := 357) (by decide +kernel)
theorem m_358 : Cond.instanceMethod yX8_get ∈ lw_tbl := List.mem_of_getElem? (i := 358) (by decide +kernel)
theorem m_359 : Cond.selects RX8 yX8_get yX8_get ∈ lw_tbl := List.mem_of_getElem? (i := 359) (by decide +kernel)
theorem m_361 : Cond.methodLink RX3 56 yX3_fitsFrequency ∈ lw_tbl := List.mem_of_getElem? (i := 361) (by decide +kernel)
theorem m_363 : Cond.instanceMethod yX3_fitsFrequency ∈ lw_tbl := List.mem_of_getElem? (i := 363) (by decide +kernel)
theorem m_365 : Cond.methodLink RX3 34 yX3_frequencyOf ∈ lw_tbl := List.mem_of_getElem? (i := 365) (by decide +kernel)
theorem m_367 : Cond.instanceMethod yX3_frequencyOf ∈ lw_tbl := List.mem_of_getElem? (i := 367) (by decide +kernel)
theorem m_369 : Cond.methodLink RX3 60 yX3_fitsName ∈ lw_tbl := List.mem_of_getElem? (i := 369) (by decide +kernel)
theorem m_371 : Cond.instanceMethod yX3_fitsName ∈ lw_tbl := List.mem_of_getElem? (i := 371) (by decide +kernel)
theorem m_373 : Cond.methodLink RX3 64 yX3_endsName ∈ lw_tbl := List.mem_of_getElem? (i := 373) (by decide +kernel)
theorem m_375 : Cond.instanceMethod yX3_endsName ∈ lw_tbl := List.mem_of_getElem? (i := 375) (by decide +kernel)
theorem m_377 : Cond.methodLink RX3 67 yX3_isListed ∈ lw_tbl := List.mem_of_getElem? (i := 377) (by decide +kernel)
theorem m_379 : Cond.instanceMethod yX3_isListed ∈ lw_tbl := List.mem_of_getElem? (i := 379) (by decide +kernel)
theorem m_381 : Cond.methodLink RX3 70 yX3_isSameText ∈ lw_tbl := List.mem_of_getElem? (i := 381) (by decide +kernel)
theorem m_383 : Cond.instanceMethod yX3_isSameText ∈ lw_tbl := List.mem_of_getElem? (i := 383) (by decide +kernel)
theorem m_389 : Cond.methodLink RX9 91 yX3_endsWithItem ∈ lw_tbl := List.mem_of_getElem? (i := 389) (by decide +kernel)
theorem m_390 : Cond.instanceMethod yX3_endsWithItem ∈ lw_tbl := List.mem_of_getElem? (i := 390) (by decide +kernel)
theorem m_391 : Cond.selects RX3 yX3_endsWithItem yX3_endsWithItem ∈ lw_tbl := List.mem_of_getElem? (i := 391) (by decide +kernel)
theorem m_393 : Cond.methodLink RX9 94 yX9_isAnyItemKnown ∈ lw_tbl := List.mem_of_getElem? (i := 393) (by decide +kernel)
theorem m_395 : Cond.instanceMethod yX9_isAnyItemKnown ∈ lw_tbl := List.mem_of_getElem? (i := 395) (by decide +kernel)
theorem m_397 : Cond.methodLink RX9 97 yX3_items ∈ lw_tbl := List.mem_of_getElem? (i := 397) (by decide +kernel)
theorem m_398 : Cond.instanceMethod yX3_items ∈ lw_tbl := List.mem_of_getElem? (i := 398) (by decide +kernel)
theorem m_399 : Cond.selects RX3 yX3_items yX3_items ∈ lw_tbl := List.mem_of_getElem? (i := 399) (by decide +kernel)
theorem m_401 : Cond.methodLink RX9 123 yX3_startOf ∈ lw_tbl := List.mem_of_getElem? (i := 401) (by decide +kernel)
theorem m_402 : Cond.instanceMethod yX3_startOf ∈ lw_tbl := List.mem_of_getElem? (i := 402) (by decide +kernel)
theorem m_403 : Cond.selects RX3 yX3_startOf yX3_startOf ∈ lw_tbl := List.mem_of_getElem? (i := 403) (by decide +kernel)
theorem m_405 : Cond.methodLink RX9 127 yX3_lengthOf ∈ lw_tbl := List.mem_of_getElem? (i := 405) (by decide +kernel)
theorem m_406 : Cond.instanceMethod yX3_lengthOf ∈ lw_tbl := List.mem_of_getElem? (i := 406) (by decide +kernel)
theorem m_407 : Cond.selects RX3 yX3_lengthOf yX3_lengthOf ∈ lw_tbl := List.mem_of_getElem? (i := 407) (by decide +kernel)
theorem m_409 : Cond.methodLink RX9 130 yX7_contains ∈ lw_tbl := List.mem_of_getElem? (i := 409) (by decide +kernel)
theorem m_410 : Cond.instanceMethod yX7_contains ∈ lw_tbl := List.mem_of_getElem? (i := 410) (by decide +kernel)
theorem m_411 : Cond.selects RX7 yX7_contains yX7_contains ∈ lw_tbl := List.mem_of_getElem? (i := 411) (by decide +kernel)
theorem m_413 : Cond.methodLink RX7 37 yX1_isWritten ∈ lw_tbl := List.mem_of_getElem? (i := 413) (by decide +kernel)
theorem m_414 : Cond.instanceMethod yX1_isWritten ∈ lw_tbl := List.mem_of_getElem? (i := 414) (by decide +kernel)
theorem m_415 : Cond.selects RX1 yX1_isWritten yX1_isWritten ∈ lw_tbl := List.mem_of_getElem? (i := 415) (by decide +kernel)
theorem m_417 : Cond.methodLink RX1 24 yX8_get ∈ lw_tbl := List.mem_of_getElem? (i := 417) (by decide +kernel)
theorem m_418 : Cond.methodLink RX9 100 yX7_size ∈ lw_tbl := List.mem_of_getElem? (i := 418) (by decide +kernel)
theorem m_419 : Cond.instanceMethod yX7_size ∈ lw_tbl := List.mem_of_getElem? (i := 419) (by decide +kernel)
theorem m_420 : Cond.selects RX7 yX7_size yX7_size ∈ lw_tbl := List.mem_of_getElem? (i := 420) (by decide +kernel)
theorem m_422 : Cond.methodLink RX9 101 yX3_entryOf ∈ lw_tbl := List.mem_of_getElem? (i := 422) (by decide +kernel)
theorem m_423 : Cond.instanceMethod yX3_entryOf ∈ lw_tbl := List.mem_of_getElem? (i := 423) (by decide +kernel)
theorem m_424 : Cond.selects RX3 yX3_entryOf yX3_entryOf ∈ lw_tbl := List.mem_of_getElem? (i := 424) (by decide +kernel)
theorem m_426 : Cond.classLink RX3 25 RX1 ∈ lw_tbl := List.mem_of_getElem? (i := 426) (by decide +kernel)
theorem m_427 : Cond.instantiable RX1 3 ∈ lw_tbl := List.mem_of_getElem? (i := 427) (by decide +kernel)
theorem m_428 : Cond.methodLink RX3 27 yX3_startOf ∈ lw_tbl := List.mem_of_getElem? (i := 428) (by decide +kernel)
theorem m_429 : Cond.methodLink RX3 31 yX3_lengthOf ∈ lw_tbl := List.mem_of_getElem? (i := 429) (by decide +kernel)
theorem m_430 : Cond.methodLink RX3 37 yX1_init ∈ lw_tbl := List.mem_of_getElem? (i := 430) (by decide +kernel)
theorem m_431 : Cond.instanceMethod yX1_init ∈ lw_tbl := List.mem_of_getElem? (i := 431) (by decide +kernel)
theorem m_433 : Cond.methodLink RX1 3 objectInit ∈ lw_tbl := List.mem_of_getElem? (i := 433) (by decide +kernel)
theorem m_434 : Cond.methodLink RX1 9 yJ9_max_7cf53 ∈ lw_tbl := List.mem_of_getElem? (i := 434) (by decide +kernel)
theorem m_435 : Cond.fieldLink RX1 15 "DialMenus$Entry" "letters" "[I" ∈ lw_tbl := List.mem_of_getElem? (i := 435) (by decide +kernel)
theorem m_436 : Cond.fieldLinkNest RX7 48 "DialMenus$Entry" "letters" "[I" "DialMenus" ∈ lw_tbl := List.mem_of_getElem? (i := 436) (by decide +kernel)
theorem m_437 : Cond.fieldLink RX1 21 "DialMenus$Entry" "code" "[I" ∈ lw_tbl := List.mem_of_getElem? (i := 437) (by decide +kernel)
theorem m_438 : Cond.fieldLink RX1 30 "DialMenus$Entry" "frequency" "I" ∈ lw_tbl := List.mem_of_getElem? (i := 438) (by decide +kernel)
theorem m_439 : Cond.fieldLinkNest RX7 45 "DialMenus$Entry" "frequency" "I" "DialMenus" ∈ lw_tbl := List.mem_of_getElem? (i := 439) (by decide +kernel)
theorem m_447 : Cond.methodLink RX9 105 yX1_encode ∈ lw_tbl := List.mem_of_getElem? (i := 447) (by decide +kernel)
theorem m_448 : Cond.instanceMethod yX1_encode ∈ lw_tbl := List.mem_of_getElem? (i := 448) (by decide +kernel)
theorem m_449 : Cond.selects RX1 yX1_encode yX1_encode ∈ lw_tbl := List.mem_of_getElem? (i := 449) (by decide +kernel)
theorem m_451 : Cond.methodLink RX1 34 yX2_digitOf ∈ lw_tbl := List.mem_of_getElem? (i := 451) (by decide +kernel)
theorem m_452 : Cond.instanceMethod yX2_digitOf ∈ lw_tbl := List.mem_of_getElem? (i := 452) (by decide +kernel)
theorem m_453 : Cond.selects RX2 yX2_digitOf yX2_digitOf ∈ lw_tbl := List.mem_of_getElem? (i := 453) (by decide +kernel)
theorem m_455 : Cond.methodLink RX9 111 yX7_insert ∈ lw_tbl := List.mem_of_getElem? (i := 455) (by decide +kernel)
theorem m_456 : Cond.instanceMethod yX7_insert ∈ lw_tbl := List.mem_of_getElem? (i := 456) (by decide +kernel)
theorem m_457 : Cond.selects RX7 yX7_insert yX7_insert ∈ lw_tbl := List.mem_of_getElem? (i := 457) (by decide +kernel)
theorem m_459 : Cond.methodLink RX7 25 yX7_placeOf ∈ lw_tbl := List.mem_of_getElem? (i := 459) (by decide +kernel)
theorem m_461 : Cond.instanceMethod yX7_placeOf ∈ lw_tbl := List.mem_of_getElem? (i := 461) (by decide +kernel)
theorem m_463 : Cond.methodLink RX7 29 yX1_comesBefore ∈ lw_tbl := List.mem_of_getElem? (i := 463) (by decide +kernel)
theorem m_464 : Cond.instanceMethod yX1_comesBefore ∈ lw_tbl := List.mem_of_getElem? (i := 464) (by decide +kernel)
theorem m_465 : Cond.selects RX1 yX1_comesBefore yX1_comesBefore ∈ lw_tbl := List.mem_of_getElem? (i := 465) (by decide +kernel)
theorem m_471 : Cond.methodLink RX9 134 yX2_read ∈ lw_tbl := List.mem_of_getElem? (i := 471) (by decide +kernel)
theorem m_472 : Cond.instanceMethod yX2_read ∈ lw_tbl := List.mem_of_getElem? (i := 472) (by decide +kernel)
theorem m_473 : Cond.selects RX2 yX2_read yX2_read ∈ lw_tbl := List.mem_of_getElem? (i := 473) (by decide +kernel)
theorem m_475 : Cond.methodLink RX2 26 yX8_size ∈ lw_tbl := List.mem_of_getElem? (i := 475) (by decide +kernel)
theorem m_476 : Cond.methodLink RX2 32 yX8_get ∈ lw_tbl := List.mem_of_getElem? (i := 476) (by decide +kernel)
theorem m_477 : Cond.methodLink RX2 36 yJ9_max_7cf53 ∈ lw_tbl := List.mem_of_getElem? (i := 477) (by decide +kernel)
theorem m_478 : Cond.methodLink RX2 42 arraycopyName ∈ lw_tbl := List.mem_of_getElem? (i := 478) (by decide +kernel)
theorem m_481 : Cond.methodLink RX9 137 yX7_encode ∈ lw_tbl := List.mem_of_getElem? (i := 481) (by decide +kernel)
theorem m_482 : Cond.instanceMethod yX7_encode ∈ lw_tbl := List.mem_of_getElem? (i := 482) (by decide +kernel)
theorem m_483 : Cond.selects RX7 yX7_encode yX7_encode ∈ lw_tbl := List.mem_of_getElem? (i := 483) (by decide +kernel)
theorem m_485 : Cond.methodLink RX7 41 yX1_encode ∈ lw_tbl := List.mem_of_getElem? (i := 485) (by decide +kernel)
theorem m_490 : Cond.methodLink RX9 141 yX7_has ∈ lw_tbl := List.mem_of_getElem? (i := 490) (by decide +kernel)
theorem m_491 : Cond.instanceMethod yX7_has ∈ lw_tbl := List.mem_of_getElem? (i := 491) (by decide +kernel)
theorem m_492 : Cond.selects RX7 yX7_has yX7_has ∈ lw_tbl := List.mem_of_getElem? (i := 492) (by decide +kernel)
theorem m_494 : Cond.methodLink RX7 21 yX7_get ∈ lw_tbl := List.mem_of_getElem? (i := 494) (by decide +kernel)
theorem m_496 : Cond.instanceMethod yX7_get ∈ lw_tbl := List.mem_of_getElem? (i := 496) (by decide +kernel)
theorem m_498 : Cond.methodLink RX9 145 yX7_remove ∈ lw_tbl := List.mem_of_getElem? (i := 498) (by decide +kernel)
theorem m_499 : Cond.instanceMethod yX7_remove ∈ lw_tbl := List.mem_of_getElem? (i := 499) (by decide +kernel)
theorem m_500 : Cond.selects RX7 yX7_remove yX7_remove ∈ lw_tbl := List.mem_of_getElem? (i := 500) (by decide +kernel)
theorem m_502 : Cond.methodLink RX7 33 yX7_has ∈ lw_tbl := List.mem_of_getElem? (i := 502) (by decide +kernel)
theorem m_507 : Cond.methodLink RX9 151 yX7_setFrequency ∈ lw_tbl := List.mem_of_getElem? (i := 507) (by decide +kernel)
theorem m_508 : Cond.instanceMethod yX7_setFrequency ∈ lw_tbl := List.mem_of_getElem? (i := 508) (by decide +kernel)
theorem m_509 : Cond.selects RX7 yX7_setFrequency yX7_setFrequency ∈ lw_tbl := List.mem_of_getElem? (i := 509) (by decide +kernel)
theorem m_512 : Cond.instanceMethod yX9_name ∈ lw_tbl := List.mem_of_getElem? (i := 512) (by decide +kernel)
theorem m_513 : Cond.selects RX9 yX9_name yX9_name ∈ lw_tbl := List.mem_of_getElem? (i := 513) (by decide +kernel)
theorem m_515 : Cond.methodLink RX9 155 yX7_lengthOf ∈ lw_tbl := List.mem_of_getElem? (i := 515) (by decide +kernel)
theorem m_516 : Cond.instanceMethod yX7_lengthOf ∈ lw_tbl := List.mem_of_getElem? (i := 516) (by decide +kernel)
theorem m_517 : Cond.selects RX7 yX7_lengthOf yX7_lengthOf ∈ lw_tbl := List.mem_of_getElem? (i := 517) (by decide +kernel)
theorem m_519 : Cond.methodLink RX9 156 yX7_frequencyOf ∈ lw_tbl := List.mem_of_getElem? (i := 519) (by decide +kernel)
theorem m_520 : Cond.instanceMethod yX7_frequencyOf ∈ lw_tbl := List.mem_of_getElem? (i := 520) (by decide +kernel)
theorem m_521 : Cond.selects RX7 yX7_frequencyOf yX7_frequencyOf ∈ lw_tbl := List.mem_of_getElem? (i := 521) (by decide +kernel)
theorem m_523 : Cond.methodLink RX9 159 yX0_twins ∈ lw_tbl := List.mem_of_getElem? (i := 523) (by decide +kernel)
theorem m_524 : Cond.instanceMethod yX0_twins ∈ lw_tbl := List.mem_of_getElem? (i := 524) (by decide +kernel)
theorem m_525 : Cond.selects RX0 yX0_twins yX0_twins ∈ lw_tbl := List.mem_of_getElem? (i := 525) (by decide +kernel)
theorem m_527 : Cond.methodLink RX0 24 yX7_size ∈ lw_tbl := List.mem_of_getElem? (i := 527) (by decide +kernel)
theorem m_528 : Cond.methodLink RX0 69 yX0_twinsBelow ∈ lw_tbl := List.mem_of_getElem? (i := 528) (by decide +kernel)
theorem m_530 : Cond.instanceMethod yX0_twinsBelow ∈ lw_tbl := List.mem_of_getElem? (i := 530) (by decide +kernel)
theorem m_532 : Cond.methodLink RX0 72 yX0_areTwins ∈ lw_tbl := List.mem_of_getElem? (i := 532) (by decide +kernel)
theorem m_534 : Cond.instanceMethod yX0_areTwins ∈ lw_tbl := List.mem_of_getElem? (i := 534) (by decide +kernel)
theorem m_536 : Cond.methodLink RX0 58 yX7_lengthOf ∈ lw_tbl := List.mem_of_getElem? (i := 536) (by decide +kernel)
theorem m_537 : Cond.methodLink RX0 50 yX7_sharedDigits ∈ lw_tbl := List.mem_of_getElem? (i := 537) (by decide +kernel)
theorem m_538 : Cond.instanceMethod yX7_sharedDigits ∈ lw_tbl := List.mem_of_getElem? (i := 538) (by decide +kernel)
theorem m_539 : Cond.selects RX7 yX7_sharedDigits yX7_sharedDigits ∈ lw_tbl := List.mem_of_getElem? (i := 539) (by decide +kernel)
theorem m_541 : Cond.methodLink RX7 59 yX1_sharedDigits ∈ lw_tbl := List.mem_of_getElem? (i := 541) (by decide +kernel)
theorem m_542 : Cond.instanceMethod yX1_sharedDigits ∈ lw_tbl := List.mem_of_getElem? (i := 542) (by decide +kernel)
theorem m_543 : Cond.selects RX1 yX1_sharedDigits yX1_sharedDigits ∈ lw_tbl := List.mem_of_getElem? (i := 543) (by decide +kernel)
theorem m_545 : Cond.methodLink RX9 163 yX0_distinguishingLength ∈ lw_tbl := List.mem_of_getElem? (i := 545) (by decide +kernel)
theorem m_546 : Cond.instanceMethod yX0_distinguishingLength ∈ lw_tbl := List.mem_of_getElem? (i := 546) (by decide +kernel)
theorem m_547 : Cond.selects RX0 yX0_distinguishingLength yX0_distinguishingLength ∈ lw_tbl := List.mem_of_getElem? (i := 547) (by decide +kernel)
theorem m_549 : Cond.methodLink RX0 66 yJ9_max_7cf53 ∈ lw_tbl := List.mem_of_getElem? (i := 549) (by decide +kernel)
theorem m_550 : Cond.methodLink RX9 166 yX0_presses ∈ lw_tbl := List.mem_of_getElem? (i := 550) (by decide +kernel)
theorem m_551 : Cond.instanceMethod yX0_presses ∈ lw_tbl := List.mem_of_getElem? (i := 551) (by decide +kernel)
theorem m_552 : Cond.selects RX0 yX0_presses yX0_presses ∈ lw_tbl := List.mem_of_getElem? (i := 552) (by decide +kernel)
theorem m_554 : Cond.methodLink RX0 54 yX0_placeIn ∈ lw_tbl := List.mem_of_getElem? (i := 554) (by decide +kernel)
theorem m_555 : Cond.instanceMethod yX0_placeIn ∈ lw_tbl := List.mem_of_getElem? (i := 555) (by decide +kernel)
theorem m_556 : Cond.selects RX0 yX0_placeIn yX0_placeIn ∈ lw_tbl := List.mem_of_getElem? (i := 556) (by decide +kernel)
theorem m_558 : Cond.methodLink RX0 46 yX7_isAhead ∈ lw_tbl := List.mem_of_getElem? (i := 558) (by decide +kernel)
theorem m_559 : Cond.instanceMethod yX7_isAhead ∈ lw_tbl := List.mem_of_getElem? (i := 559) (by decide +kernel)
theorem m_560 : Cond.selects RX7 yX7_isAhead yX7_isAhead ∈ lw_tbl := List.mem_of_getElem? (i := 560) (by decide +kernel)
theorem m_562 : Cond.methodLink RX0 61 yJ9_min_7cf53 ∈ lw_tbl := List.mem_of_getElem? (i := 562) (by decide +kernel)
theorem m_565 : Cond.methodLink RX9 169 yX0_placeIn ∈ lw_tbl := List.mem_of_getElem? (i := 565) (by decide +kernel)
theorem m_566 : Cond.methodLink RX9 173 yX4_lengthOf ∈ lw_tbl := List.mem_of_getElem? (i := 566) (by decide +kernel)
theorem m_567 : Cond.instanceMethod yX4_lengthOf ∈ lw_tbl := List.mem_of_getElem? (i := 567) (by decide +kernel)
theorem m_568 : Cond.selects RX4 yX4_lengthOf yX4_lengthOf ∈ lw_tbl := List.mem_of_getElem? (i := 568) (by decide +kernel)
theorem m_570 : Cond.methodLink RX4 54 yX4_has ∈ lw_tbl := List.mem_of_getElem? (i := 570) (by decide +kernel)
theorem m_572 : Cond.instanceMethod yX4_has ∈ lw_tbl := List.mem_of_getElem? (i := 572) (by decide +kernel)
theorem m_574 : Cond.methodLink RX9 174 yX9_optimal ∈ lw_tbl := List.mem_of_getElem? (i := 574) (by decide +kernel)
theorem m_576 : Cond.instanceMethod yX9_optimal ∈ lw_tbl := List.mem_of_getElem? (i := 576) (by decide +kernel)
theorem m_578 : Cond.methodLink RX9 258 yX5_planInto ∈ lw_tbl := List.mem_of_getElem? (i := 578) (by decide +kernel)
theorem m_579 : Cond.instanceMethod yX5_planInto ∈ lw_tbl := List.mem_of_getElem? (i := 579) (by decide +kernel)
theorem m_580 : Cond.selects RX5 yX5_planInto yX5_planInto ∈ lw_tbl := List.mem_of_getElem? (i := 580) (by decide +kernel)
theorem m_582 : Cond.methodLink RX5 26 yX7_size ∈ lw_tbl := List.mem_of_getElem? (i := 582) (by decide +kernel)
theorem m_583 : Cond.methodLink RX5 32 yJ9_min_7cf53 ∈ lw_tbl := List.mem_of_getElem? (i := 583) (by decide +kernel)
theorem m_584 : Cond.methodLink RX5 38 yX7_frequencyOf ∈ lw_tbl := List.mem_of_getElem? (i := 584) (by decide +kernel)
theorem m_585 : Cond.methodLink RX5 42 yX5_planRun ∈ lw_tbl := List.mem_of_getElem? (i := 585) (by decide +kernel)
theorem m_587 : Cond.instanceMethod yX5_planRun ∈ lw_tbl := List.mem_of_getElem? (i := 587) (by decide +kernel)
theorem m_589 : Cond.methodLink RX5 56 yX5_run ∈ lw_tbl := List.mem_of_getElem? (i := 589) (by decide +kernel)
theorem m_590 : Cond.static yX5_run ∈ lw_tbl := List.mem_of_getElem? (i := 590) (by decide +kernel)
theorem m_592 : Cond.methodLink RX5 59 yX5_planParts ∈ lw_tbl := List.mem_of_getElem? (i := 592) (by decide +kernel)
theorem m_594 : Cond.instanceMethod yX5_planParts ∈ lw_tbl := List.mem_of_getElem? (i := 594) (by decide +kernel)
theorem m_596 : Cond.methodLink RX5 46 yX4_start ∈ lw_tbl := List.mem_of_getElem? (i := 596) (by decide +kernel)
theorem m_597 : Cond.instanceMethod yX4_start ∈ lw_tbl := List.mem_of_getElem? (i := 597) (by decide +kernel)
theorem m_598 : Cond.selects RX4 yX4_start yX4_start ∈ lw_tbl := List.mem_of_getElem? (i := 598) (by decide +kernel)
theorem m_600 : Cond.methodLink RX4 33 yJ9_min_7cf53 ∈ lw_tbl := List.mem_of_getElem? (i := 600) (by decide +kernel)
theorem m_601 : Cond.methodLink RX4 39 yJ9_max_7cf53 ∈ lw_tbl := List.mem_of_getElem? (i := 601) (by decide +kernel)
theorem m_602 : Cond.methodLink RX4 48 yJ7_fill_53178 ∈ lw_tbl := List.mem_of_getElem? (i := 602) (by decide +kernel)
theorem m_603 : Cond.static yJ7_fill_53178 ∈ lw_tbl := List.mem_of_getElem? (i := 603) (by decide +kernel)
theorem m_605 : Cond.methodLink RX5 52 yX5_layPath ∈ lw_tbl := List.mem_of_getElem? (i := 605) (by decide +kernel)
theorem m_607 : Cond.instanceMethod yX5_layPath ∈ lw_tbl := List.mem_of_getElem? (i := 607) (by decide +kernel)
theorem m_609 : Cond.methodLink RX5 62 yX4_addBranching ∈ lw_tbl := List.mem_of_getElem? (i := 609) (by decide +kernel)
theorem m_610 : Cond.instanceMethod yX4_addBranching ∈ lw_tbl := List.mem_of_getElem? (i := 610) (by decide +kernel)
theorem m_611 : Cond.selects RX4 yX4_addBranching yX4_addBranching ∈ lw_tbl := List.mem_of_getElem? (i := 611) (by decide +kernel)
theorem m_613 : Cond.methodLink RX5 65 yX4_addStep ∈ lw_tbl := List.mem_of_getElem? (i := 613) (by decide +kernel)
theorem m_614 : Cond.instanceMethod yX4_addStep ∈ lw_tbl := List.mem_of_getElem? (i := 614) (by decide +kernel)
theorem m_615 : Cond.selects RX4 yX4_addStep yX4_addStep ∈ lw_tbl := List.mem_of_getElem? (i := 615) (by decide +kernel)
theorem m_621 : Cond.methodLink RX9 178 yX7_letterAt ∈ lw_tbl := List.mem_of_getElem? (i := 621) (by decide +kernel)
theorem m_622 : Cond.instanceMethod yX7_letterAt ∈ lw_tbl := List.mem_of_getElem? (i := 622) (by decide +kernel)
theorem m_623 : Cond.selects RX7 yX7_letterAt yX7_letterAt ∈ lw_tbl := List.mem_of_getElem? (i := 623) (by decide +kernel)
theorem m_625 : Cond.methodLink RX7 52 yX1_letterAt ∈ lw_tbl := List.mem_of_getElem? (i := 625) (by decide +kernel)
theorem m_626 : Cond.instanceMethod yX1_letterAt ∈ lw_tbl := List.mem_of_getElem? (i := 626) (by decide +kernel)
theorem m_627 : Cond.selects RX1 yX1_letterAt yX1_letterAt ∈ lw_tbl := List.mem_of_getElem? (i := 627) (by decide +kernel)
theorem m_633 : Cond.methodLink RX9 181 yX7_digitAt ∈ lw_tbl := List.mem_of_getElem? (i := 633) (by decide +kernel)
theorem m_634 : Cond.instanceMethod yX7_digitAt ∈ lw_tbl := List.mem_of_getElem? (i := 634) (by decide +kernel)
theorem m_635 : Cond.selects RX7 yX7_digitAt yX7_digitAt ∈ lw_tbl := List.mem_of_getElem? (i := 635) (by decide +kernel)
theorem m_637 : Cond.methodLink RX7 56 yX1_digitAt ∈ lw_tbl := List.mem_of_getElem? (i := 637) (by decide +kernel)
theorem m_638 : Cond.instanceMethod yX1_digitAt ∈ lw_tbl := List.mem_of_getElem? (i := 638) (by decide +kernel)
theorem m_639 : Cond.selects RX1 yX1_digitAt yX1_digitAt ∈ lw_tbl := List.mem_of_getElem? (i := 639) (by decide +kernel)
theorem m_645 : Cond.methodLink RX9 184 yX2_digitOf ∈ lw_tbl := List.mem_of_getElem? (i := 645) (by decide +kernel)
theorem m_647 : Cond.instanceMethod yX9_about ∈ lw_tbl := List.mem_of_getElem? (i := 647) (by decide +kernel)
theorem m_648 : Cond.selects RX9 yX9_about yX9_about ∈ lw_tbl := List.mem_of_getElem? (i := 648) (by decide +kernel)
theorem m_650 : Cond.methodLink RX9 187 yX7_sumOfFrequencies ∈ lw_tbl := List.mem_of_getElem? (i := 650) (by decide +kernel)
theorem m_651 : Cond.instanceMethod yX7_sumOfFrequencies ∈ lw_tbl := List.mem_of_getElem? (i := 651) (by decide +kernel)
theorem m_652 : Cond.selects RX7 yX7_sumOfFrequencies yX7_sumOfFrequencies ∈ lw_tbl := List.mem_of_getElem? (i := 652) (by decide +kernel)
theorem m_654 : Cond.methodLink RX9 190 yX0_namesWithTwins ∈ lw_tbl := List.mem_of_getElem? (i := 654) (by decide +kernel)
theorem m_655 : Cond.instanceMethod yX0_namesWithTwins ∈ lw_tbl := List.mem_of_getElem? (i := 655) (by decide +kernel)
theorem m_656 : Cond.selects RX0 yX0_namesWithTwins yX0_namesWithTwins ∈ lw_tbl := List.mem_of_getElem? (i := 656) (by decide +kernel)
theorem m_658 : Cond.methodLink RX0 76 yX0_twins ∈ lw_tbl := List.mem_of_getElem? (i := 658) (by decide +kernel)
theorem m_659 : Cond.methodLink RX9 194 yX0_differentCodes ∈ lw_tbl := List.mem_of_getElem? (i := 659) (by decide +kernel)
theorem m_660 : Cond.instanceMethod yX0_differentCodes ∈ lw_tbl := List.mem_of_getElem? (i := 660) (by decide +kernel)
theorem m_661 : Cond.selects RX0 yX0_differentCodes yX0_differentCodes ∈ lw_tbl := List.mem_of_getElem? (i := 661) (by decide +kernel)
theorem m_663 : Cond.methodLink RX9 197 yX0_greatestDistinguishingLength ∈ lw_tbl := List.mem_of_getElem? (i := 663) (by decide +kernel)
theorem m_664 : Cond.instanceMethod yX0_greatestDistinguishingLength ∈ lw_tbl := List.mem_of_getElem? (i := 664) (by decide +kernel)
theorem m_665 : Cond.selects RX0 yX0_greatestDistinguishingLength yX0_greatestDistinguishingLength ∈ lw_tbl := List.mem_of_getElem? (i := 665) (by decide +kernel)
theorem m_667 : Cond.methodLink RX0 79 yX0_distinguishingLength ∈ lw_tbl := List.mem_of_getElem? (i := 667) (by decide +kernel)
theorem m_668 : Cond.methodLink RX9 200 yX0_sumOfPresses ∈ lw_tbl := List.mem_of_getElem? (i := 668) (by decide +kernel)
theorem m_669 : Cond.instanceMethod yX0_sumOfPresses ∈ lw_tbl := List.mem_of_getElem? (i := 669) (by decide +kernel)
theorem m_670 : Cond.selects RX0 yX0_sumOfPresses yX0_sumOfPresses ∈ lw_tbl := List.mem_of_getElem? (i := 670) (by decide +kernel)
theorem m_672 : Cond.methodLink RX0 82 yX7_frequencyOf ∈ lw_tbl := List.mem_of_getElem? (i := 672) (by decide +kernel)
theorem m_673 : Cond.methodLink RX0 85 yX0_presses ∈ lw_tbl := List.mem_of_getElem? (i := 673) (by decide +kernel)
theorem m_674 : Cond.methodLink RX9 203 yX7_sumOfLengths ∈ lw_tbl := List.mem_of_getElem? (i := 674) (by decide +kernel)
theorem m_675 : Cond.instanceMethod yX7_sumOfLengths ∈ lw_tbl := List.mem_of_getElem? (i := 675) (by decide +kernel)
theorem m_676 : Cond.selects RX7 yX7_sumOfLengths yX7_sumOfLengths ∈ lw_tbl := List.mem_of_getElem? (i := 676) (by decide +kernel)
theorem m_686 : Cond.methodLink RX9 206 yX8_removeLast ∈ lw_tbl := List.mem_of_getElem? (i := 686) (by decide +kernel)
theorem m_687 : Cond.instanceMethod yX8_removeLast ∈ lw_tbl := List.mem_of_getElem? (i := 687) (by decide +kernel)
theorem m_688 : Cond.selects RX8 yX8_removeLast yX8_removeLast ∈ lw_tbl := List.mem_of_getElem? (i := 688) (by decide +kernel)
theorem m_698 : Cond.methodLink RX9 209 yX8_get ∈ lw_tbl := List.mem_of_getElem? (i := 698) (by decide +kernel)
theorem m_703 : Cond.methodLink RX9 212 yX0_listFor ∈ lw_tbl := List.mem_of_getElem? (i := 703) (by decide +kernel)
theorem m_704 : Cond.instanceMethod yX0_listFor ∈ lw_tbl := List.mem_of_getElem? (i := 704) (by decide +kernel)
theorem m_705 : Cond.selects RX0 yX0_listFor yX0_listFor ∈ lw_tbl := List.mem_of_getElem? (i := 705) (by decide +kernel)
theorem m_707 : Cond.methodLink RX0 20 yX8_clear ∈ lw_tbl := List.mem_of_getElem? (i := 707) (by decide +kernel)
theorem m_708 : Cond.methodLink RX0 29 yX7_beginsWith ∈ lw_tbl := List.mem_of_getElem? (i := 708) (by decide +kernel)
theorem m_709 : Cond.instanceMethod yX7_beginsWith ∈ lw_tbl := List.mem_of_getElem? (i := 709) (by decide +kernel)
theorem m_710 : Cond.selects RX7 yX7_beginsWith yX7_beginsWith ∈ lw_tbl := List.mem_of_getElem? (i := 710) (by decide +kernel)
theorem m_712 : Cond.methodLink RX7 62 yX1_beginsWith ∈ lw_tbl := List.mem_of_getElem? (i := 712) (by decide +kernel)
theorem m_713 : Cond.instanceMethod yX1_beginsWith ∈ lw_tbl := List.mem_of_getElem? (i := 713) (by decide +kernel)
theorem m_714 : Cond.selects RX1 yX1_beginsWith yX1_beginsWith ∈ lw_tbl := List.mem_of_getElem? (i := 714) (by decide +kernel)
theorem m_716 : Cond.methodLink RX1 39 yX8_size ∈ lw_tbl := List.mem_of_getElem? (i := 716) (by decide +kernel)
theorem m_717 : Cond.methodLink RX1 43 yX1_digitAt ∈ lw_tbl := List.mem_of_getElem? (i := 717) (by decide +kernel)
theorem m_718 : Cond.methodLink RX0 33 yX0_placeInList ∈ lw_tbl := List.mem_of_getElem? (i := 718) (by decide +kernel)
theorem m_720 : Cond.instanceMethod yX0_placeInList ∈ lw_tbl := List.mem_of_getElem? (i := 720) (by decide +kernel)
theorem m_722 : Cond.methodLink RX0 41 yX8_size ∈ lw_tbl := List.mem_of_getElem? (i := 722) (by decide +kernel)
theorem m_723 : Cond.methodLink RX0 42 yX8_get ∈ lw_tbl := List.mem_of_getElem? (i := 723) (by decide +kernel)
theorem m_724 : Cond.methodLink RX0 37 yX8_insert ∈ lw_tbl := List.mem_of_getElem? (i := 724) (by decide +kernel)
theorem m_725 : Cond.instanceMethod yX8_insert ∈ lw_tbl := List.mem_of_getElem? (i := 725) (by decide +kernel)
theorem m_726 : Cond.selects RX8 yX8_insert yX8_insert ∈ lw_tbl := List.mem_of_getElem? (i := 726) (by decide +kernel)
theorem m_732 : Cond.methodLink RX9 216 yX6_study ∈ lw_tbl := List.mem_of_getElem? (i := 732) (by decide +kernel)
theorem m_733 : Cond.instanceMethod yX6_study ∈ lw_tbl := List.mem_of_getElem? (i := 733) (by decide +kernel)
theorem m_734 : Cond.selects RX6 yX6_study yX6_study ∈ lw_tbl := List.mem_of_getElem? (i := 734) (by decide +kernel)
theorem m_736 : Cond.methodLink RX6 33 yX8_size ∈ lw_tbl := List.mem_of_getElem? (i := 736) (by decide +kernel)
theorem m_737 : Cond.methodLink RX6 37 yJ9_min_7cf53 ∈ lw_tbl := List.mem_of_getElem? (i := 737) (by decide +kernel)
theorem m_738 : Cond.methodLink RX6 43 yX6_studyDigit ∈ lw_tbl := List.mem_of_getElem? (i := 738) (by decide +kernel)
theorem m_740 : Cond.instanceMethod yX6_studyDigit ∈ lw_tbl := List.mem_of_getElem? (i := 740) (by decide +kernel)
theorem m_742 : Cond.methodLink RX6 46 yX7_size ∈ lw_tbl := List.mem_of_getElem? (i := 742) (by decide +kernel)
theorem m_743 : Cond.methodLink RX6 49 yX7_isTypedAt ∈ lw_tbl := List.mem_of_getElem? (i := 743) (by decide +kernel)
theorem m_744 : Cond.instanceMethod yX7_isTypedAt ∈ lw_tbl := List.mem_of_getElem? (i := 744) (by decide +kernel)
theorem m_745 : Cond.selects RX7 yX7_isTypedAt yX7_isTypedAt ∈ lw_tbl := List.mem_of_getElem? (i := 745) (by decide +kernel)
theorem m_747 : Cond.methodLink RX7 66 yX1_isTypedAt ∈ lw_tbl := List.mem_of_getElem? (i := 747) (by decide +kernel)
theorem m_748 : Cond.instanceMethod yX1_isTypedAt ∈ lw_tbl := List.mem_of_getElem? (i := 748) (by decide +kernel)
theorem m_749 : Cond.selects RX1 yX1_isTypedAt yX1_isTypedAt ∈ lw_tbl := List.mem_of_getElem? (i := 749) (by decide +kernel)
theorem m_751 : Cond.methodLink RX6 53 yX7_lengthOf ∈ lw_tbl := List.mem_of_getElem? (i := 751) (by decide +kernel)
theorem m_752 : Cond.methodLink RX6 57 yX6_studyName ∈ lw_tbl := List.mem_of_getElem? (i := 752) (by decide +kernel)
theorem m_754 : Cond.instanceMethod yX6_studyName ∈ lw_tbl := List.mem_of_getElem? (i := 754) (by decide +kernel)
theorem m_756 : Cond.constant RX6 65 1000000 ∈ lw_tbl := List.mem_of_getElem? (i := 756) (by decide +kernel)
theorem m_757 : Cond.methodLink RX6 61 yX6_layBest ∈ lw_tbl := List.mem_of_getElem? (i := 757) (by decide +kernel)
theorem m_759 : Cond.instanceMethod yX6_layBest ∈ lw_tbl := List.mem_of_getElem? (i := 759) (by decide +kernel)
theorem m_761 : Cond.methodLink RX6 66 yX8_clear ∈ lw_tbl := List.mem_of_getElem? (i := 761) (by decide +kernel)
theorem m_762 : Cond.methodLink RX6 69 yX6_bestNameAt ∈ lw_tbl := List.mem_of_getElem? (i := 762) (by decide +kernel)
theorem m_764 : Cond.instanceMethod yX6_bestNameAt ∈ lw_tbl := List.mem_of_getElem? (i := 764) (by decide +kernel)
theorem m_766 : Cond.methodLink RX6 79 yX6_keepsBest ∈ lw_tbl := List.mem_of_getElem? (i := 766) (by decide +kernel)
theorem m_768 : Cond.instanceMethod yX6_keepsBest ∈ lw_tbl := List.mem_of_getElem? (i := 768) (by decide +kernel)
theorem m_770 : Cond.methodLink RX6 73 yX8_get ∈ lw_tbl := List.mem_of_getElem? (i := 770) (by decide +kernel)
theorem m_771 : Cond.methodLink RX6 76 yX8_add ∈ lw_tbl := List.mem_of_getElem? (i := 771) (by decide +kernel)
theorem m_772 : Cond.methodLink RX9 220 yX6_number ∈ lw_tbl := List.mem_of_getElem? (i := 772) (by decide +kernel)
theorem m_773 : Cond.instanceMethod yX6_number ∈ lw_tbl := List.mem_of_getElem? (i := 773) (by decide +kernel)
theorem m_774 : Cond.selects RX6 yX6_number yX6_number ∈ lw_tbl := List.mem_of_getElem? (i := 774) (by decide +kernel)
theorem m_780 : Cond.methodLink RX9 223 yX6_best ∈ lw_tbl := List.mem_of_getElem? (i := 780) (by decide +kernel)
theorem m_781 : Cond.instanceMethod yX6_best ∈ lw_tbl := List.mem_of_getElem? (i := 781) (by decide +kernel)
theorem m_782 : Cond.selects RX6 yX6_best yX6_best ∈ lw_tbl := List.mem_of_getElem? (i := 782) (by decide +kernel)
theorem m_788 : Cond.methodLink RX9 227 yX4_cost ∈ lw_tbl := List.mem_of_getElem? (i := 788) (by decide +kernel)
theorem m_789 : Cond.instanceMethod yX4_cost ∈ lw_tbl := List.mem_of_getElem? (i := 789) (by decide +kernel)
theorem m_790 : Cond.selects RX4 yX4_cost yX4_cost ∈ lw_tbl := List.mem_of_getElem? (i := 790) (by decide +kernel)
theorem m_792 : Cond.methodLink RX4 58 yX7_frequencyOf ∈ lw_tbl := List.mem_of_getElem? (i := 792) (by decide +kernel)
theorem m_793 : Cond.methodLink RX9 230 yX9_adoptSpare ∈ lw_tbl := List.mem_of_getElem? (i := 793) (by decide +kernel)
theorem m_795 : Cond.instanceMethod yX9_adoptSpare ∈ lw_tbl := List.mem_of_getElem? (i := 795) (by decide +kernel)
theorem m_801 : Cond.methodLink RX9 233 yX4_width ∈ lw_tbl := List.mem_of_getElem? (i := 801) (by decide +kernel)
theorem m_802 : Cond.instanceMethod yX4_width ∈ lw_tbl := List.mem_of_getElem? (i := 802) (by decide +kernel)
theorem m_803 : Cond.selects RX4 yX4_width yX4_width ∈ lw_tbl := List.mem_of_getElem? (i := 803) (by decide +kernel)
theorem m_805 : Cond.methodLink RX9 236 yX4_differentPaths ∈ lw_tbl := List.mem_of_getElem? (i := 805) (by decide +kernel)
theorem m_806 : Cond.instanceMethod yX4_differentPaths ∈ lw_tbl := List.mem_of_getElem? (i := 806) (by decide +kernel)
theorem m_807 : Cond.selects RX4 yX4_differentPaths yX4_differentPaths ∈ lw_tbl := List.mem_of_getElem? (i := 807) (by decide +kernel)
theorem m_809 : Cond.methodLink RX4 67 yX4_hasSamePath ∈ lw_tbl := List.mem_of_getElem? (i := 809) (by decide +kernel)
theorem m_811 : Cond.instanceMethod yX4_hasSamePath ∈ lw_tbl := List.mem_of_getElem? (i := 811) (by decide +kernel)
theorem m_813 : Cond.methodLink RX4 64 yX4_stepOf ∈ lw_tbl := List.mem_of_getElem? (i := 813) (by decide +kernel)
theorem m_814 : Cond.instanceMethod yX4_stepOf ∈ lw_tbl := List.mem_of_getElem? (i := 814) (by decide +kernel)
theorem m_815 : Cond.selects RX4 yX4_stepOf yX4_stepOf ∈ lw_tbl := List.mem_of_getElem? (i := 815) (by decide +kernel)
theorem m_821 : Cond.methodLink RX9 240 yX4_stepOf ∈ lw_tbl := List.mem_of_getElem? (i := 821) (by decide +kernel)
theorem m_826 : Cond.methodLink RX9 243 yX4_follow ∈ lw_tbl := List.mem_of_getElem? (i := 826) (by decide +kernel)
theorem m_827 : Cond.instanceMethod yX4_follow ∈ lw_tbl := List.mem_of_getElem? (i := 827) (by decide +kernel)
theorem m_828 : Cond.selects RX4 yX4_follow yX4_follow ∈ lw_tbl := List.mem_of_getElem? (i := 828) (by decide +kernel)
theorem m_830 : Cond.methodLink RX4 71 yX4_splitDecimals ∈ lw_tbl := List.mem_of_getElem? (i := 830) (by decide +kernel)
theorem m_832 : Cond.instanceMethod yX4_splitDecimals ∈ lw_tbl := List.mem_of_getElem? (i := 832) (by decide +kernel)
theorem m_834 : Cond.methodLink RX4 80 yX8_clear ∈ lw_tbl := List.mem_of_getElem? (i := 834) (by decide +kernel)
theorem m_835 : Cond.methodLink RX4 83 yX8_add ∈ lw_tbl := List.mem_of_getElem? (i := 835) (by decide +kernel)
theorem m_836 : Cond.methodLink RX4 74 yX4_beginsAsWanted ∈ lw_tbl := List.mem_of_getElem? (i := 836) (by decide +kernel)
theorem m_838 : Cond.instanceMethod yX4_beginsAsWanted ∈ lw_tbl := List.mem_of_getElem? (i := 838) (by decide +kernel)
theorem m_840 : Cond.methodLink RX4 77 yX8_size ∈ lw_tbl := List.mem_of_getElem? (i := 840) (by decide +kernel)
theorem m_841 : Cond.methodLink RX4 86 yX8_get ∈ lw_tbl := List.mem_of_getElem? (i := 841) (by decide +kernel)
theorem m_843 : Cond.instanceMethod yX9_menu ∈ lw_tbl := List.mem_of_getElem? (i := 843) (by decide +kernel)
theorem m_844 : Cond.selects RX9 yX9_menu yX9_menu ∈ lw_tbl := List.mem_of_getElem? (i := 844) (by decide +kernel)
theorem m_846 : Cond.methodLink RX9 246 yX4_longestPath ∈ lw_tbl := List.mem_of_getElem? (i := 846) (by decide +kernel)
theorem m_847 : Cond.instanceMethod yX4_longestPath ∈ lw_tbl := List.mem_of_getElem? (i := 847) (by decide +kernel)
theorem m_848 : Cond.selects RX4 yX4_longestPath yX4_longestPath ∈ lw_tbl := List.mem_of_getElem? (i := 848) (by decide +kernel)
theorem m_850 : Cond.methodLink RX9 249 yX4_branchings ∈ lw_tbl := List.mem_of_getElem? (i := 850) (by decide +kernel)
theorem m_851 : Cond.instanceMethod yX4_branchings ∈ lw_tbl := List.mem_of_getElem? (i := 851) (by decide +kernel)
theorem m_852 : Cond.selects RX4 yX4_branchings yX4_branchings ∈ lw_tbl := List.mem_of_getElem? (i := 852) (by decide +kernel)
theorem m_854 : Cond.methodLink RX9 252 yX4_partsOfWhole ∈ lw_tbl := List.mem_of_getElem? (i := 854) (by decide +kernel)
theorem m_855 : Cond.instanceMethod yX4_partsOfWhole ∈ lw_tbl := List.mem_of_getElem? (i := 855) (by decide +kernel)
theorem m_856 : Cond.selects RX4 yX4_partsOfWhole yX4_partsOfWhole ∈ lw_tbl := List.mem_of_getElem? (i := 856) (by decide +kernel)
theorem m_859 : Cond.instanceMethod yX9_count ∈ lw_tbl := List.mem_of_getElem? (i := 859) (by decide +kernel)
theorem m_860 : Cond.selects RX9 yX9_count yX9_count ∈ lw_tbl := List.mem_of_getElem? (i := 860) (by decide +kernel)
theorem m_866 : Cond.constantLong RX9 262 1571 ∈ lw_tbl := List.mem_of_getElem? (i := 866) (by decide +kernel)
theorem m_867 : Cond.methodLink RX9 264 yX9_mix ∈ lw_tbl := List.mem_of_getElem? (i := 867) (by decide +kernel)
theorem m_868 : Cond.static yX9_mix ∈ lw_tbl := List.mem_of_getElem? (i := 868) (by decide +kernel)
theorem m_870 : Cond.constantLong RX9 291 31 ∈ lw_tbl := List.mem_of_getElem? (i := 870) (by decide +kernel)
theorem m_871 : Cond.methodLink RX9 268 yX9_mixNames ∈ lw_tbl := List.mem_of_getElem? (i := 871) (by decide +kernel)
theorem m_873 : Cond.instanceMethod yX9_mixNames ∈ lw_tbl := List.mem_of_getElem? (i := 873) (by decide +kernel)
theorem m_875 : Cond.methodLink RX9 288 yX9_name ∈ lw_tbl := List.mem_of_getElem? (i := 875) (by decide +kernel)
theorem m_876 : Cond.methodLink RX9 272 yX9_about ∈ lw_tbl := List.mem_of_getElem? (i := 876) (by decide +kernel)
theorem m_877 : Cond.methodLink RX9 275 yX9_mixRow ∈ lw_tbl := List.mem_of_getElem? (i := 877) (by decide +kernel)
theorem m_878 : Cond.static yX9_mixRow ∈ lw_tbl := List.mem_of_getElem? (i := 878) (by decide +kernel)
theorem m_880 : Cond.methodLink RX9 279 yX9_menu ∈ lw_tbl := List.mem_of_getElem? (i := 880) (by decide +kernel)
theorem m_881 : Cond.methodLink RX9 282 yX9_mixPaths ∈ lw_tbl := List.mem_of_getElem? (i := 881) (by decide +kernel)
theorem m_883 : Cond.instanceMethod yX9_mixPaths ∈ lw_tbl := List.mem_of_getElem? (i := 883) (by decide +kernel)
theorem m_885 : Cond.methodLink RX9 285 yX9_count ∈ lw_tbl := List.mem_of_getElem? (i := 885) (by decide +kernel)
theorem m_891 : Cond.methodLink RX10 1 objectInit ∈ lw_tbl := List.mem_of_getElem? (i := 891) (by decide +kernel)
theorem m_892 : Cond.fieldLink RX10 77 "DialMenusModel" "pageLength" "I" ∈ lw_tbl := List.mem_of_getElem? (i := 892) (by decide +kernel)
theorem m_893 : Cond.fieldLink RX10 7 "DialMenusModel" "page" "[I" ∈ lw_tbl := List.mem_of_getElem? (i := 893) (by decide +kernel)
theorem m_894 : Cond.fieldLink RX10 109 "DialMenusModel" "names" "I" ∈ lw_tbl := List.mem_of_getElem? (i := 894) (by decide +kernel)
theorem m_895 : Cond.fieldLink RX10 13 "DialMenusModel" "length" "[I" ∈ lw_tbl := List.mem_of_getElem? (i := 895) (by decide +kernel)
theorem m_896 : Cond.fieldLink RX10 16 "DialMenusModel" "letters" "[I" ∈ lw_tbl := List.mem_of_getElem? (i := 896) (by decide +kernel)
theorem m_897 : Cond.fieldLink RX10 19 "DialMenusModel" "uses" "[I" ∈ lw_tbl := List.mem_of_getElem? (i := 897) (by decide +kernel)
theorem m_898 : Cond.fieldLink RX10 127 "DialMenusModel" "listsRead" "I" ∈ lw_tbl := List.mem_of_getElem? (i := 898) (by decide +kernel)
theorem m_899 : Cond.fieldLink RX10 136 "DialMenusModel" "dialsRead" "I" ∈ lw_tbl := List.mem_of_getElem? (i := 899) (by decide +kernel)
theorem m_900 : Cond.fieldLink RX10 142 "DialMenusModel" "gone" "I" ∈ lw_tbl := List.mem_of_getElem? (i := 900) (by decide +kernel)
theorem m_901 : Cond.fieldLink RX10 22 "DialMenusModel" "digitOf" "[I" ∈ lw_tbl := List.mem_of_getElem? (i := 901) (by decide +kernel)
theorem m_902 : Cond.fieldLink RX10 199 "DialMenusModel" "typedMany" "I" ∈ lw_tbl := List.mem_of_getElem? (i := 902) (by decide +kernel)
theorem m_903 : Cond.fieldLink RX10 25 "DialMenusModel" "typedAt" "[I" ∈ lw_tbl := List.mem_of_getElem? (i := 903) (by decide +kernel)
theorem m_904 : Cond.fieldLink RX10 130 "DialMenusModel" "width" "I" ∈ lw_tbl := List.mem_of_getElem? (i := 904) (by decide +kernel)
theorem m_905 : Cond.fieldLink RX10 28 "DialMenusModel" "pathLength" "[I" ∈ lw_tbl := List.mem_of_getElem? (i := 905) (by decide +kernel)
theorem m_906 : Cond.fieldLink RX10 31 "DialMenusModel" "steps" "[I" ∈ lw_tbl := List.mem_of_getElem? (i := 906) (by decide +kernel)
theorem m_907 : Cond.fieldLink RX10 259 "DialMenusModel" "built" "I" ∈ lw_tbl := List.mem_of_getElem? (i := 907) (by decide +kernel)
theorem m_908 : Cond.fieldLink RX10 81 "DialMenusModel" "stage" "I" ∈ lw_tbl := List.mem_of_getElem? (i := 908) (by decide +kernel)
theorem m_909 : Cond.fieldLink RX10 84 "DialMenusModel" "newNames" "I" ∈ lw_tbl := List.mem_of_getElem? (i := 909) (by decide +kernel)
theorem m_910 : Cond.fieldLink RX10 34 "DialMenusModel" "newLength" "[I" ∈ lw_tbl := List.mem_of_getElem? (i := 910) (by decide +kernel)
theorem m_911 : Cond.fieldLink RX10 37 "DialMenusModel" "newLetters" "[I" ∈ lw_tbl := List.mem_of_getElem? (i := 911) (by decide +kernel)
theorem m_912 : Cond.fieldLink RX10 40 "DialMenusModel" "newUses" "[I" ∈ lw_tbl := List.mem_of_getElem? (i := 912) (by decide +kernel)
theorem m_913 : Cond.fieldLink RX10 43 "DialMenusModel" "newDigit" "[I" ∈ lw_tbl := List.mem_of_getElem? (i := 913) (by decide +kernel)
theorem m_914 : Cond.fieldLink RX10 46 "DialMenusModel" "ways" "[I" ∈ lw_tbl := List.mem_of_getElem? (i := 914) (by decide +kernel)
theorem m_915 : Cond.fieldLink RX10 49 "DialMenusModel" "loose" "[I" ∈ lw_tbl := List.mem_of_getElem? (i := 915) (by decide +kernel)
theorem m_916 : Cond.fieldLink RX10 52 "DialMenusModel" "sizes" "[I" ∈ lw_tbl := List.mem_of_getElem? (i := 916) (by decide +kernel)
theorem m_917 : Cond.fieldLink RX10 55 "DialMenusModel" "looseWays" "[I" ∈ lw_tbl := List.mem_of_getElem? (i := 917) (by decide +kernel)
theorem m_918 : Cond.fieldLink RX10 58 "DialMenusModel" "costs" "[I" ∈ lw_tbl := List.mem_of_getElem? (i := 918) (by decide +kernel)
theorem m_919 : Cond.fieldLink RX10 61 "DialMenusModel" "parts" "[I" ∈ lw_tbl := List.mem_of_getElem? (i := 919) (by decide +kernel)
theorem m_920 : Cond.fieldLink RX10 64 "DialMenusModel" "newPathLength" "[I" ∈ lw_tbl := List.mem_of_getElem? (i := 920) (by decide +kernel)
theorem m_921 : Cond.fieldLink RX10 67 "DialMenusModel" "newSteps" "[I" ∈ lw_tbl := List.mem_of_getElem? (i := 921) (by decide +kernel)
theorem m_922 : Cond.fieldLink RX10 271 "DialMenusModel" "asked" "I" ∈ lw_tbl := List.mem_of_getElem? (i := 922) (by decide +kernel)
theorem m_923 : Cond.fieldLink RX10 70 "DialMenusModel" "askedAt" "[I" ∈ lw_tbl := List.mem_of_getElem? (i := 923) (by decide +kernel)
theorem m_924 : Cond.fieldLink RX10 300 "DialMenusModel" "h" "J" ∈ lw_tbl := List.mem_of_getElem? (i := 924) (by decide +kernel)
theorem m_996 : Cond.methodLink RX10 73 yX10_within ∈ lw_tbl := List.mem_of_getElem? (i := 996) (by decide +kernel)
theorem m_997 : Cond.static yX10_within ∈ lw_tbl := List.mem_of_getElem? (i := 997) (by decide +kernel)
theorem m_1007 : Cond.methodLink RX10 105 yX10_read ∈ lw_tbl := List.mem_of_getElem? (i := 1007) (by decide +kernel)
theorem m_1009 : Cond.instanceMethod yX10_read ∈ lw_tbl := List.mem_of_getElem? (i := 1009) (by decide +kernel)
theorem m_1011 : Cond.methodLink RX10 102 yX10_takes ∈ lw_tbl := List.mem_of_getElem? (i := 1011) (by decide +kernel)
theorem m_1013 : Cond.instanceMethod yX10_takes ∈ lw_tbl := List.mem_of_getElem? (i := 1013) (by decide +kernel)
theorem m_1015 : Cond.methodLink RX10 95 yX10_takesName ∈ lw_tbl := List.mem_of_getElem? (i := 1015) (by decide +kernel)
theorem m_1017 : Cond.instanceMethod yX10_takesName ∈ lw_tbl := List.mem_of_getElem? (i := 1017) (by decide +kernel)
theorem m_1019 : Cond.methodLink RX10 87 yX10_isNewTwice ∈ lw_tbl := List.mem_of_getElem? (i := 1019) (by decide +kernel)
theorem m_1021 : Cond.instanceMethod yX10_isNewTwice ∈ lw_tbl := List.mem_of_getElem? (i := 1021) (by decide +kernel)
theorem m_1023 : Cond.methodLink RX10 91 yX10_goes ∈ lw_tbl := List.mem_of_getElem? (i := 1023) (by decide +kernel)
theorem m_1025 : Cond.instanceMethod yX10_goes ∈ lw_tbl := List.mem_of_getElem? (i := 1025) (by decide +kernel)
theorem m_1027 : Cond.methodLink RX10 99 yX10_takesUse ∈ lw_tbl := List.mem_of_getElem? (i := 1027) (by decide +kernel)
theorem m_1029 : Cond.instanceMethod yX10_takesUse ∈ lw_tbl := List.mem_of_getElem? (i := 1029) (by decide +kernel)
theorem m_1035 : Cond.methodLink RX10 120 yX10_isThere ∈ lw_tbl := List.mem_of_getElem? (i := 1035) (by decide +kernel)
theorem m_1037 : Cond.instanceMethod yX10_isThere ∈ lw_tbl := List.mem_of_getElem? (i := 1037) (by decide +kernel)
theorem m_1039 : Cond.methodLink RX10 112 yX10_compareNew ∈ lw_tbl := List.mem_of_getElem? (i := 1039) (by decide +kernel)
theorem m_1041 : Cond.instanceMethod yX10_compareNew ∈ lw_tbl := List.mem_of_getElem? (i := 1041) (by decide +kernel)
theorem m_1043 : Cond.methodLink RX10 123 yX10_comes ∈ lw_tbl := List.mem_of_getElem? (i := 1043) (by decide +kernel)
theorem m_1045 : Cond.instanceMethod yX10_comes ∈ lw_tbl := List.mem_of_getElem? (i := 1045) (by decide +kernel)
theorem m_1047 : Cond.methodLink RX10 116 yX10_moveName ∈ lw_tbl := List.mem_of_getElem? (i := 1047) (by decide +kernel)
theorem m_1049 : Cond.instanceMethod yX10_moveName ∈ lw_tbl := List.mem_of_getElem? (i := 1049) (by decide +kernel)
theorem m_1055 : Cond.methodLink RX10 133 yX10_isDial ∈ lw_tbl := List.mem_of_getElem? (i := 1055) (by decide +kernel)
theorem m_1057 : Cond.instanceMethod yX10_isDial ∈ lw_tbl := List.mem_of_getElem? (i := 1057) (by decide +kernel)
theorem m_1063 : Cond.methodLink RX10 139 yX10_isName ∈ lw_tbl := List.mem_of_getElem? (i := 1063) (by decide +kernel)
theorem m_1065 : Cond.instanceMethod yX10_isName ∈ lw_tbl := List.mem_of_getElem? (i := 1065) (by decide +kernel)
theorem m_1075 : Cond.methodLink RX10 175 yX10_nameNow ∈ lw_tbl := List.mem_of_getElem? (i := 1075) (by decide +kernel)
theorem m_1077 : Cond.instanceMethod yX10_nameNow ∈ lw_tbl := List.mem_of_getElem? (i := 1077) (by decide +kernel)
theorem m_1079 : Cond.methodLink RX10 162 yX10_twins ∈ lw_tbl := List.mem_of_getElem? (i := 1079) (by decide +kernel)
theorem m_1081 : Cond.instanceMethod yX10_twins ∈ lw_tbl := List.mem_of_getElem? (i := 1081) (by decide +kernel)
theorem m_1083 : Cond.methodLink RX10 151 yX10_isTwin ∈ lw_tbl := List.mem_of_getElem? (i := 1083) (by decide +kernel)
theorem m_1085 : Cond.instanceMethod yX10_isTwin ∈ lw_tbl := List.mem_of_getElem? (i := 1085) (by decide +kernel)
theorem m_1087 : Cond.methodLink RX10 148 yX10_begins ∈ lw_tbl := List.mem_of_getElem? (i := 1087) (by decide +kernel)
theorem m_1089 : Cond.instanceMethod yX10_begins ∈ lw_tbl := List.mem_of_getElem? (i := 1089) (by decide +kernel)
theorem m_1091 : Cond.methodLink RX10 145 yX10_codeAt ∈ lw_tbl := List.mem_of_getElem? (i := 1091) (by decide +kernel)
theorem m_1093 : Cond.instanceMethod yX10_codeAt ∈ lw_tbl := List.mem_of_getElem? (i := 1093) (by decide +kernel)
theorem m_1095 : Cond.methodLink RX10 166 yX10_telling ∈ lw_tbl := List.mem_of_getElem? (i := 1095) (by decide +kernel)
theorem m_1097 : Cond.instanceMethod yX10_telling ∈ lw_tbl := List.mem_of_getElem? (i := 1097) (by decide +kernel)
theorem m_1099 : Cond.methodLink RX10 169 yX10_presses ∈ lw_tbl := List.mem_of_getElem? (i := 1099) (by decide +kernel)
theorem m_1101 : Cond.instanceMethod yX10_presses ∈ lw_tbl := List.mem_of_getElem? (i := 1101) (by decide +kernel)
theorem m_1103 : Cond.constant RX10 158 268435456 ∈ lw_tbl := List.mem_of_getElem? (i := 1103) (by decide +kernel)
theorem m_1104 : Cond.methodLink RX10 159 yX10_placeIn ∈ lw_tbl := List.mem_of_getElem? (i := 1104) (by decide +kernel)
theorem m_1106 : Cond.instanceMethod yX10_placeIn ∈ lw_tbl := List.mem_of_getElem? (i := 1106) (by decide +kernel)
theorem m_1108 : Cond.methodLink RX10 155 yX10_isAhead ∈ lw_tbl := List.mem_of_getElem? (i := 1108) (by decide +kernel)
theorem m_1110 : Cond.instanceMethod yX10_isAhead ∈ lw_tbl := List.mem_of_getElem? (i := 1110) (by decide +kernel)
theorem m_1112 : Cond.methodLink RX10 172 yX10_layMenu ∈ lw_tbl := List.mem_of_getElem? (i := 1112) (by decide +kernel)
theorem m_1114 : Cond.instanceMethod yX10_layMenu ∈ lw_tbl := List.mem_of_getElem? (i := 1114) (by decide +kernel)
theorem m_1116 : Cond.methodLink RX10 250 yX10_layCosts ∈ lw_tbl := List.mem_of_getElem? (i := 1116) (by decide +kernel)
theorem m_1118 : Cond.instanceMethod yX10_layCosts ∈ lw_tbl := List.mem_of_getElem? (i := 1118) (by decide +kernel)
theorem m_1120 : Cond.methodLink RX10 235 yX10_layStretch ∈ lw_tbl := List.mem_of_getElem? (i := 1120) (by decide +kernel)
theorem m_1122 : Cond.instanceMethod yX10_layStretch ∈ lw_tbl := List.mem_of_getElem? (i := 1122) (by decide +kernel)
theorem m_1124 : Cond.methodLink RX10 238 yX10_bestParts ∈ lw_tbl := List.mem_of_getElem? (i := 1124) (by decide +kernel)
theorem m_1126 : Cond.instanceMethod yX10_bestParts ∈ lw_tbl := List.mem_of_getElem? (i := 1126) (by decide +kernel)
theorem m_1128 : Cond.methodLink RX10 228 yX10_partsAt ∈ lw_tbl := List.mem_of_getElem? (i := 1128) (by decide +kernel)
theorem m_1130 : Cond.instanceMethod yX10_partsAt ∈ lw_tbl := List.mem_of_getElem? (i := 1130) (by decide +kernel)
theorem m_1132 : Cond.methodLink RX10 232 yX10_costAt ∈ lw_tbl := List.mem_of_getElem? (i := 1132) (by decide +kernel)
theorem m_1134 : Cond.instanceMethod yX10_costAt ∈ lw_tbl := List.mem_of_getElem? (i := 1134) (by decide +kernel)
theorem m_1136 : Cond.methodLink RX10 241 yX10_usesOf ∈ lw_tbl := List.mem_of_getElem? (i := 1136) (by decide +kernel)
theorem m_1138 : Cond.instanceMethod yX10_usesOf ∈ lw_tbl := List.mem_of_getElem? (i := 1138) (by decide +kernel)
theorem m_1140 : Cond.methodLink RX10 253 yX10_layPath ∈ lw_tbl := List.mem_of_getElem? (i := 1140) (by decide +kernel)
theorem m_1142 : Cond.instanceMethod yX10_layPath ∈ lw_tbl := List.mem_of_getElem? (i := 1142) (by decide +kernel)
theorem m_1144 : Cond.methodLink RX10 244 yX10_partsOf ∈ lw_tbl := List.mem_of_getElem? (i := 1144) (by decide +kernel)
theorem m_1146 : Cond.instanceMethod yX10_partsOf ∈ lw_tbl := List.mem_of_getElem? (i := 1146) (by decide +kernel)
theorem m_1148 : Cond.methodLink RX10 247 yX10_firstCut ∈ lw_tbl := List.mem_of_getElem? (i := 1148) (by decide +kernel)
theorem m_1150 : Cond.instanceMethod yX10_firstCut ∈ lw_tbl := List.mem_of_getElem? (i := 1150) (by decide +kernel)
theorem m_1168 : Cond.methodLink RX10 196 yX10_aboutNow ∈ lw_tbl := List.mem_of_getElem? (i := 1168) (by decide +kernel)
theorem m_1170 : Cond.instanceMethod yX10_aboutNow ∈ lw_tbl := List.mem_of_getElem? (i := 1170) (by decide +kernel)
theorem m_1172 : Cond.methodLink RX10 178 yX10_usesAll ∈ lw_tbl := List.mem_of_getElem? (i := 1172) (by decide +kernel)
theorem m_1174 : Cond.instanceMethod yX10_usesAll ∈ lw_tbl := List.mem_of_getElem? (i := 1174) (by decide +kernel)
theorem m_1176 : Cond.methodLink RX10 181 yX10_withTwins ∈ lw_tbl := List.mem_of_getElem? (i := 1176) (by decide +kernel)
theorem m_1178 : Cond.instanceMethod yX10_withTwins ∈ lw_tbl := List.mem_of_getElem? (i := 1178) (by decide +kernel)
theorem m_1180 : Cond.methodLink RX10 184 yX10_codesMany ∈ lw_tbl := List.mem_of_getElem? (i := 1180) (by decide +kernel)
theorem m_1182 : Cond.instanceMethod yX10_codesMany ∈ lw_tbl := List.mem_of_getElem? (i := 1182) (by decide +kernel)
theorem m_1184 : Cond.methodLink RX10 187 yX10_mostTelling ∈ lw_tbl := List.mem_of_getElem? (i := 1184) (by decide +kernel)
theorem m_1186 : Cond.instanceMethod yX10_mostTelling ∈ lw_tbl := List.mem_of_getElem? (i := 1186) (by decide +kernel)
theorem m_1188 : Cond.methodLink RX10 190 yX10_pressesAll ∈ lw_tbl := List.mem_of_getElem? (i := 1188) (by decide +kernel)
theorem m_1190 : Cond.instanceMethod yX10_pressesAll ∈ lw_tbl := List.mem_of_getElem? (i := 1190) (by decide +kernel)
theorem m_1192 : Cond.methodLink RX10 193 yX10_digitsAll ∈ lw_tbl := List.mem_of_getElem? (i := 1192) (by decide +kernel)
theorem m_1194 : Cond.instanceMethod yX10_digitsAll ∈ lw_tbl := List.mem_of_getElem? (i := 1194) (by decide +kernel)
theorem m_1213 : Cond.instanceMethod yX10_choice ∈ lw_tbl := List.mem_of_getElem? (i := 1213) (by decide +kernel)
theorem m_1214 : Cond.selects RX10 yX10_choice yX10_choice ∈ lw_tbl := List.mem_of_getElem? (i := 1214) (by decide +kernel)
theorem m_1216 : Cond.methodLink RX10 202 yX10_isChosen ∈ lw_tbl := List.mem_of_getElem? (i := 1216) (by decide +kernel)
theorem m_1218 : Cond.instanceMethod yX10_isChosen ∈ lw_tbl := List.mem_of_getElem? (i := 1218) (by decide +kernel)
theorem m_1220 : Cond.methodLink RX10 205 yX10_chosenAhead ∈ lw_tbl := List.mem_of_getElem? (i := 1220) (by decide +kernel)
theorem m_1222 : Cond.instanceMethod yX10_chosenAhead ∈ lw_tbl := List.mem_of_getElem? (i := 1222) (by decide +kernel)
theorem m_1228 : Cond.methodLink RX10 219 yX10_spellingNow ∈ lw_tbl := List.mem_of_getElem? (i := 1228) (by decide +kernel)
theorem m_1230 : Cond.instanceMethod yX10_spellingNow ∈ lw_tbl := List.mem_of_getElem? (i := 1230) (by decide +kernel)
theorem m_1232 : Cond.methodLink RX10 216 yX10_laySpellings ∈ lw_tbl := List.mem_of_getElem? (i := 1232) (by decide +kernel)
theorem m_1234 : Cond.instanceMethod yX10_laySpellings ∈ lw_tbl := List.mem_of_getElem? (i := 1234) (by decide +kernel)
theorem m_1236 : Cond.methodLink RX10 209 yX10_takesPiece ∈ lw_tbl := List.mem_of_getElem? (i := 1236) (by decide +kernel)
theorem m_1238 : Cond.instanceMethod yX10_takesPiece ∈ lw_tbl := List.mem_of_getElem? (i := 1238) (by decide +kernel)
theorem m_1240 : Cond.constant RX10 208 1000000 ∈ lw_tbl := List.mem_of_getElem? (i := 1240) (by decide +kernel)
theorem m_1241 : Cond.methodLink RX10 213 yX10_fitsAt ∈ lw_tbl := List.mem_of_getElem? (i := 1241) (by decide +kernel)
theorem m_1243 : Cond.instanceMethod yX10_fitsAt ∈ lw_tbl := List.mem_of_getElem? (i := 1243) (by decide +kernel)
theorem m_1249 : Cond.methodLink RX10 225 yX10_pieceNow ∈ lw_tbl := List.mem_of_getElem? (i := 1249) (by decide +kernel)
theorem m_1251 : Cond.instanceMethod yX10_pieceNow ∈ lw_tbl := List.mem_of_getElem? (i := 1251) (by decide +kernel)
theorem m_1253 : Cond.methodLink RX10 222 yX10_bestName ∈ lw_tbl := List.mem_of_getElem? (i := 1253) (by decide +kernel)
theorem m_1255 : Cond.instanceMethod yX10_bestName ∈ lw_tbl := List.mem_of_getElem? (i := 1255) (by decide +kernel)
theorem m_1261 : Cond.methodLink RX10 262 yX10_takeMenu ∈ lw_tbl := List.mem_of_getElem? (i := 1261) (by decide +kernel)
theorem m_1263 : Cond.instanceMethod yX10_takeMenu ∈ lw_tbl := List.mem_of_getElem? (i := 1263) (by decide +kernel)
theorem m_1265 : Cond.methodLink RX10 256 yX10_isPathChanged ∈ lw_tbl := List.mem_of_getElem? (i := 1265) (by decide +kernel)
theorem m_1267 : Cond.instanceMethod yX10_isPathChanged ∈ lw_tbl := List.mem_of_getElem? (i := 1267) (by decide +kernel)
theorem m_1269 : Cond.methodLink RX10 265 yX10_costNow ∈ lw_tbl := List.mem_of_getElem? (i := 1269) (by decide +kernel)
theorem m_1271 : Cond.instanceMethod yX10_costNow ∈ lw_tbl := List.mem_of_getElem? (i := 1271) (by decide +kernel)
theorem m_1277 : Cond.methodLink RX10 268 yX10_leastCost ∈ lw_tbl := List.mem_of_getElem? (i := 1277) (by decide +kernel)
theorem m_1279 : Cond.instanceMethod yX10_leastCost ∈ lw_tbl := List.mem_of_getElem? (i := 1279) (by decide +kernel)
theorem m_1289 : Cond.methodLink RX10 274 yX10_layAsked ∈ lw_tbl := List.mem_of_getElem? (i := 1289) (by decide +kernel)
theorem m_1291 : Cond.instanceMethod yX10_layAsked ∈ lw_tbl := List.mem_of_getElem? (i := 1291) (by decide +kernel)
theorem m_1293 : Cond.methodLink RX10 277 yX10_isLed ∈ lw_tbl := List.mem_of_getElem? (i := 1293) (by decide +kernel)
theorem m_1295 : Cond.instanceMethod yX10_isLed ∈ lw_tbl := List.mem_of_getElem? (i := 1295) (by decide +kernel)
theorem m_1301 : Cond.methodLink RX10 292 yX10_menuNow ∈ lw_tbl := List.mem_of_getElem? (i := 1301) (by decide +kernel)
theorem m_1303 : Cond.instanceMethod yX10_menuNow ∈ lw_tbl := List.mem_of_getElem? (i := 1303) (by decide +kernel)
theorem m_1305 : Cond.methodLink RX10 283 yX10_longest ∈ lw_tbl := List.mem_of_getElem? (i := 1305) (by decide +kernel)
theorem m_1307 : Cond.instanceMethod yX10_longest ∈ lw_tbl := List.mem_of_getElem? (i := 1307) (by decide +kernel)
theorem m_1309 : Cond.methodLink RX10 286 yX10_menusMany ∈ lw_tbl := List.mem_of_getElem? (i := 1309) (by decide +kernel)
theorem m_1311 : Cond.instanceMethod yX10_menusMany ∈ lw_tbl := List.mem_of_getElem? (i := 1311) (by decide +kernel)
theorem m_1313 : Cond.methodLink RX10 280 yX10_isSamePath ∈ lw_tbl := List.mem_of_getElem? (i := 1313) (by decide +kernel)
theorem m_1315 : Cond.instanceMethod yX10_isSamePath ∈ lw_tbl := List.mem_of_getElem? (i := 1315) (by decide +kernel)
theorem m_1317 : Cond.methodLink RX10 289 yX10_wholeParts ∈ lw_tbl := List.mem_of_getElem? (i := 1317) (by decide +kernel)
theorem m_1319 : Cond.instanceMethod yX10_wholeParts ∈ lw_tbl := List.mem_of_getElem? (i := 1319) (by decide +kernel)
theorem m_1325 : Cond.methodLink RX10 295 yX10_howMany ∈ lw_tbl := List.mem_of_getElem? (i := 1325) (by decide +kernel)
theorem m_1327 : Cond.instanceMethod yX10_howMany ∈ lw_tbl := List.mem_of_getElem? (i := 1327) (by decide +kernel)
theorem m_1333 : Cond.constantLong RX10 311 1571 ∈ lw_tbl := List.mem_of_getElem? (i := 1333) (by decide +kernel)
theorem m_1334 : Cond.methodLink RX10 304 yX10_mix ∈ lw_tbl := List.mem_of_getElem? (i := 1334) (by decide +kernel)
theorem m_1336 : Cond.instanceMethod yX10_mix ∈ lw_tbl := List.mem_of_getElem? (i := 1336) (by decide +kernel)
theorem m_1338 : Cond.constantLong RX10 298 31 ∈ lw_tbl := List.mem_of_getElem? (i := 1338) (by decide +kernel)
theorem m_1339 : Cond.methodLink RX10 313 yX10_mixName ∈ lw_tbl := List.mem_of_getElem? (i := 1339) (by decide +kernel)
theorem m_1341 : Cond.instanceMethod yX10_mixName ∈ lw_tbl := List.mem_of_getElem? (i := 1341) (by decide +kernel)
theorem m_1343 : Cond.methodLink RX10 316 yX10_mixTyped ∈ lw_tbl := List.mem_of_getElem? (i := 1343) (by decide +kernel)
theorem m_1345 : Cond.instanceMethod yX10_mixTyped ∈ lw_tbl := List.mem_of_getElem? (i := 1345) (by decide +kernel)
theorem m_1347 : Cond.methodLink RX10 308 yX10_choice ∈ lw_tbl := List.mem_of_getElem? (i := 1347) (by decide +kernel)
theorem m_1348 : Cond.methodLink RX10 319 yX10_mixMenu ∈ lw_tbl := List.mem_of_getElem? (i := 1348) (by decide +kernel)
theorem m_1350 : Cond.instanceMethod yX10_mixMenu ∈ lw_tbl := List.mem_of_getElem? (i := 1350) (by decide +kernel)
end
