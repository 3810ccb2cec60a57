section
-- ===== PART A: goes FIRST, ahead of the names: the tables' words, and 'selects' of the private methods out of them =====
/-- a private method of a class that the tables say can be made, by its rows of tables_1 -/
def lw_okq (q : MethodName × Nat) : Prop := (q.1.cls ≠ "java/lang/invoke/MethodHandle" ∧ q.1.cls ≠ "java/lang/invoke/VarHandle") ∧ Cond.instantiable q.1.cls q.2 ∈ tables_1 ∧ Cond.privateMethod q.1 ∈ tables_1 ∧ Cond.instanceMethod q.1 ∈ tables_1
theorem lw_p0 : lw_okq (⟨"InnPurposes", "isGuest", "(I)Z"⟩, 13) := ⟨⟨by decide +kernel, by decide +kernel⟩, List.mem_of_getElem? (i := 23) (by decide +kernel), List.mem_of_getElem? (i := 338) (by decide +kernel), List.mem_of_getElem? (i := 339) (by decide +kernel)⟩
theorem lw_p1 : lw_okq (⟨"InnPurposes", "lureOf", "(LInnPurposes$Guest;)LInnPurposes$Lure;"⟩, 13) := ⟨⟨by decide +kernel, by decide +kernel⟩, List.mem_of_getElem? (i := 23) (by decide +kernel), List.mem_of_getElem? (i := 342) (by decide +kernel), List.mem_of_getElem? (i := 343) (by decide +kernel)⟩
theorem lw_p2 : lw_okq (⟨"InnPurposes$Lure", "rank", "(I)V"⟩, 6) := ⟨⟨by decide +kernel, by decide +kernel⟩, List.mem_of_getElem? (i := 231) (by decide +kernel), List.mem_of_getElem? (i := 354) (by decide +kernel), List.mem_of_getElem? (i := 355) (by decide +kernel)⟩
theorem lw_p3 : lw_okq (⟨"InnPurposes$Lure", "learn", "(III)V"⟩, 6) := ⟨⟨by decide +kernel, by decide +kernel⟩, List.mem_of_getElem? (i := 231) (by decide +kernel), List.mem_of_getElem? (i := 362) (by decide +kernel), List.mem_of_getElem? (i := 363) (by decide +kernel)⟩
theorem lw_p4 : lw_okq (⟨"InnPurposes", "nightsToEmpty", "(LInnPurposes$Guest;)I"⟩, 13) := ⟨⟨by decide +kernel, by decide +kernel⟩, List.mem_of_getElem? (i := 23) (by decide +kernel), List.mem_of_getElem? (i := 375) (by decide +kernel), List.mem_of_getElem? (i := 376) (by decide +kernel)⟩
theorem lw_p5 : lw_okq (⟨"InnPurposes", "backTo", "(LInnPurposes$Guest;)I"⟩, 13) := ⟨⟨by decide +kernel, by decide +kernel⟩, List.mem_of_getElem? (i := 23) (by decide +kernel), List.mem_of_getElem? (i := 385) (by decide +kernel), List.mem_of_getElem? (i := 386) (by decide +kernel)⟩
theorem lw_p6 : lw_okq (⟨"InnPurposes$Reader", "readsClause", "(LInnPurposes$House;)Z"⟩, 3) := ⟨⟨by decide +kernel, by decide +kernel⟩, List.mem_of_getElem? (i := 165) (by decide +kernel), List.mem_of_getElem? (i := 439) (by decide +kernel), List.mem_of_getElem? (i := 440) (by decide +kernel)⟩
theorem lw_p7 : lw_okq (⟨"InnPurposes$Reader", "next", "()I"⟩, 3) := ⟨⟨by decide +kernel, by decide +kernel⟩, List.mem_of_getElem? (i := 165) (by decide +kernel), List.mem_of_getElem? (i := 443) (by decide +kernel), List.mem_of_getElem? (i := 444) (by decide +kernel)⟩
theorem lw_p8 : lw_okq (⟨"InnPurposes$Reader", "takes", "(C)Z"⟩, 3) := ⟨⟨by decide +kernel, by decide +kernel⟩, List.mem_of_getElem? (i := 165) (by decide +kernel), List.mem_of_getElem? (i := 498) (by decide +kernel), List.mem_of_getElem? (i := 499) (by decide +kernel)⟩
theorem lw_p9 : lw_okq (⟨"InnPurposes$Reader", "readsNumber", "()I"⟩, 3) := ⟨⟨by decide +kernel, by decide +kernel⟩, List.mem_of_getElem? (i := 165) (by decide +kernel), List.mem_of_getElem? (i := 502) (by decide +kernel), List.mem_of_getElem? (i := 503) (by decide +kernel)⟩
theorem lw_p10 : lw_okq (⟨"InnPurposes$Reader", "readsChoice", "(LInnPurposes$House;I)Z"⟩, 3) := ⟨⟨by decide +kernel, by decide +kernel⟩, List.mem_of_getElem? (i := 165) (by decide +kernel), List.mem_of_getElem? (i := 506) (by decide +kernel), List.mem_of_getElem? (i := 507) (by decide +kernel)⟩
theorem lw_p11 : lw_okq (⟨"InnPurposes$Reader", "readsOne", "(LInnPurposes$House;I)Z"⟩, 3) := ⟨⟨by decide +kernel, by decide +kernel⟩, List.mem_of_getElem? (i := 165) (by decide +kernel), List.mem_of_getElem? (i := 510) (by decide +kernel), List.mem_of_getElem? (i := 511) (by decide +kernel)⟩
theorem lw_p12 : lw_okq (⟨"InnPurposes$Reader", "readsTest", "(LInnPurposes$House;)Z"⟩, 3) := ⟨⟨by decide +kernel, by decide +kernel⟩, List.mem_of_getElem? (i := 165) (by decide +kernel), List.mem_of_getElem? (i := 518) (by decide +kernel), List.mem_of_getElem? (i := 519) (by decide +kernel)⟩
theorem lw_p13 : lw_okq (⟨"InnPurposes$Reader", "readsAnyOf", "(Ljava/lang/String;)I"⟩, 3) := ⟨⟨by decide +kernel, by decide +kernel⟩, List.mem_of_getElem? (i := 165) (by decide +kernel), List.mem_of_getElem? (i := 523) (by decide +kernel), List.mem_of_getElem? (i := 524) (by decide +kernel)⟩
theorem lw_p14 : lw_okq (⟨"InnPurposes$Ring", "longestFrom", "(II)I"⟩, 2) := ⟨⟨by decide +kernel, by decide +kernel⟩, List.mem_of_getElem? (i := 202) (by decide +kernel), List.mem_of_getElem? (i := 611) (by decide +kernel), List.mem_of_getElem? (i := 612) (by decide +kernel)⟩
theorem lw_p15 : lw_okq (⟨"InnPurposes$Ring", "goOn", "(III)V"⟩, 2) := ⟨⟨by decide +kernel, by decide +kernel⟩, List.mem_of_getElem? (i := 202) (by decide +kernel), List.mem_of_getElem? (i := 617) (by decide +kernel), List.mem_of_getElem? (i := 618) (by decide +kernel)⟩
def lw_privs_1 : List (MethodName × Nat) := [(⟨"InnPurposes", "isGuest", "(I)Z"⟩, 13), (⟨"InnPurposes", "lureOf", "(LInnPurposes$Guest;)LInnPurposes$Lure;"⟩, 13), (⟨"InnPurposes$Lure", "rank", "(I)V"⟩, 6), (⟨"InnPurposes$Lure", "learn", "(III)V"⟩, 6), (⟨"InnPurposes", "nightsToEmpty", "(LInnPurposes$Guest;)I"⟩, 13), (⟨"InnPurposes", "backTo", "(LInnPurposes$Guest;)I"⟩, 13), (⟨"InnPurposes$Reader", "readsClause", "(LInnPurposes$House;)Z"⟩, 3), (⟨"InnPurposes$Reader", "next", "()I"⟩, 3), (⟨"InnPurposes$Reader", "takes", "(C)Z"⟩, 3), (⟨"InnPurposes$Reader", "readsNumber", "()I"⟩, 3), (⟨"InnPurposes$Reader", "readsChoice", "(LInnPurposes$House;I)Z"⟩, 3), (⟨"InnPurposes$Reader", "readsOne", "(LInnPurposes$House;I)Z"⟩, 3), (⟨"InnPurposes$Reader", "readsTest", "(LInnPurposes$House;)Z"⟩, 3), (⟨"InnPurposes$Reader", "readsAnyOf", "(Ljava/lang/String;)I"⟩, 3), (⟨"InnPurposes$Ring", "longestFrom", "(II)I"⟩, 2), (⟨"InnPurposes$Ring", "goOn", "(III)V"⟩, 2)]
theorem lw_r1 : ∀ q ∈ lw_privs_1, lw_okq q := List.forall_mem_cons.mpr ⟨lw_p0, List.forall_mem_cons.mpr ⟨lw_p1, List.forall_mem_cons.mpr ⟨lw_p2, List.forall_mem_cons.mpr ⟨lw_p3, List.forall_mem_cons.mpr ⟨lw_p4, List.forall_mem_cons.mpr ⟨lw_p5, List.forall_mem_cons.mpr ⟨lw_p6, List.forall_mem_cons.mpr ⟨lw_p7, List.forall_mem_cons.mpr ⟨lw_p8, List.forall_mem_cons.mpr ⟨lw_p9, List.forall_mem_cons.mpr ⟨lw_p10, List.forall_mem_cons.mpr ⟨lw_p11, List.forall_mem_cons.mpr ⟨lw_p12, List.forall_mem_cons.mpr ⟨lw_p13, List.forall_mem_cons.mpr ⟨lw_p14, List.forall_mem_cons.mpr ⟨lw_p15, fun _ h => absurd h List.not_mem_nil⟩⟩⟩⟩⟩⟩⟩⟩⟩⟩⟩⟩⟩⟩⟩⟩
theorem lw_p16 : lw_okq (⟨"InnPurposes", "settle", "(LInnPurposes$Inn;)V"⟩, 13) := ⟨⟨by decide +kernel, by decide +kernel⟩, List.mem_of_getElem? (i := 23) (by decide +kernel), List.mem_of_getElem? (i := 631) (by decide +kernel), List.mem_of_getElem? (i := 632) (by decide +kernel)⟩
theorem lw_p17 : lw_okq (⟨"InnPurposes", "goNight", "(LInnPurposes$Inn;)V"⟩, 13) := ⟨⟨by decide +kernel, by decide +kernel⟩, List.mem_of_getElem? (i := 23) (by decide +kernel), List.mem_of_getElem? (i := 635) (by decide +kernel), List.mem_of_getElem? (i := 636) (by decide +kernel)⟩
theorem lw_p18 : lw_okq (⟨"InnPurposes", "behind", "(I)LInnPurposes$Inn;"⟩, 13) := ⟨⟨by decide +kernel, by decide +kernel⟩, List.mem_of_getElem? (i := 23) (by decide +kernel), List.mem_of_getElem? (i := 653) (by decide +kernel), List.mem_of_getElem? (i := 654) (by decide +kernel)⟩
theorem lw_p19 : lw_okq (⟨"InnPurposes", "fewestDecoys", "(LInnPurposes$Guest;II)I"⟩, 13) := ⟨⟨by decide +kernel, by decide +kernel⟩, List.mem_of_getElem? (i := 23) (by decide +kernel), List.mem_of_getElem? (i := 677) (by decide +kernel), List.mem_of_getElem? (i := 678) (by decide +kernel)⟩
theorem lw_p20 : lw_okq (⟨"InnPurposes", "keeps", "(LInnPurposes$Lure;III)Z"⟩, 13) := ⟨⟨by decide +kernel, by decide +kernel⟩, List.mem_of_getElem? (i := 23) (by decide +kernel), List.mem_of_getElem? (i := 682) (by decide +kernel), List.mem_of_getElem? (i := 683) (by decide +kernel)⟩
theorem lw_p21 : lw_okq (⟨"InnPurposes", "goRow", "(LInnPurposes$Inn;II)V"⟩, 13) := ⟨⟨by decide +kernel, by decide +kernel⟩, List.mem_of_getElem? (i := 23) (by decide +kernel), List.mem_of_getElem? (i := 736) (by decide +kernel), List.mem_of_getElem? (i := 737) (by decide +kernel)⟩
theorem lw_p22 : lw_okq (⟨"InnPurposes$Stage", "own", "(LInnPurposes$Guest;III)I"⟩, 2) := ⟨⟨by decide +kernel, by decide +kernel⟩, List.mem_of_getElem? (i := 215) (by decide +kernel), List.mem_of_getElem? (i := 787) (by decide +kernel), List.mem_of_getElem? (i := 788) (by decide +kernel)⟩
theorem lw_p23 : lw_okq (⟨"InnPurposes$Stage", "runs", "(LInnPurposes$Guest;IIII)I"⟩, 2) := ⟨⟨by decide +kernel, by decide +kernel⟩, List.mem_of_getElem? (i := 215) (by decide +kernel), List.mem_of_getElem? (i := 791) (by decide +kernel), List.mem_of_getElem? (i := 792) (by decide +kernel)⟩
theorem lw_p24 : lw_okq (⟨"InnPurposes$Stage", "note", "(I)V"⟩, 2) := ⟨⟨by decide +kernel, by decide +kernel⟩, List.mem_of_getElem? (i := 215) (by decide +kernel), List.mem_of_getElem? (i := 803) (by decide +kernel), List.mem_of_getElem? (i := 804) (by decide +kernel)⟩
theorem lw_p25 : lw_okq (⟨"InnPurposesModel", "isOne", "(I)Z"⟩, 46) := ⟨⟨by decide +kernel, by decide +kernel⟩, List.mem_of_getElem? (i := 852) (by decide +kernel), List.mem_of_getElem? (i := 1009) (by decide +kernel), List.mem_of_getElem? (i := 1010) (by decide +kernel)⟩
theorem lw_p26 : lw_okq (⟨"InnPurposesModel", "tempts", "(II)I"⟩, 46) := ⟨⟨by decide +kernel, by decide +kernel⟩, List.mem_of_getElem? (i := 852) (by decide +kernel), List.mem_of_getElem? (i := 1016) (by decide +kernel), List.mem_of_getElem? (i := 1017) (by decide +kernel)⟩
theorem lw_p27 : lw_okq (⟨"InnPurposesModel", "sum", "(II)I"⟩, 46) := ⟨⟨by decide +kernel, by decide +kernel⟩, List.mem_of_getElem? (i := 852) (by decide +kernel), List.mem_of_getElem? (i := 1020) (by decide +kernel), List.mem_of_getElem? (i := 1021) (by decide +kernel)⟩
theorem lw_p28 : lw_okq (⟨"InnPurposesModel", "isTrue", "(III)Z"⟩, 46) := ⟨⟨by decide +kernel, by decide +kernel⟩, List.mem_of_getElem? (i := 852) (by decide +kernel), List.mem_of_getElem? (i := 1024) (by decide +kernel), List.mem_of_getElem? (i := 1025) (by decide +kernel)⟩
theorem lw_p29 : lw_okq (⟨"InnPurposesModel", "letterOf", "(III)I"⟩, 46) := ⟨⟨by decide +kernel, by decide +kernel⟩, List.mem_of_getElem? (i := 852) (by decide +kernel), List.mem_of_getElem? (i := 1028) (by decide +kernel), List.mem_of_getElem? (i := 1029) (by decide +kernel)⟩
theorem lw_p30 : lw_okq (⟨"InnPurposesModel", "prey", "(I)I"⟩, 46) := ⟨⟨by decide +kernel, by decide +kernel⟩, List.mem_of_getElem? (i := 852) (by decide +kernel), List.mem_of_getElem? (i := 1035) (by decide +kernel), List.mem_of_getElem? (i := 1036) (by decide +kernel)⟩
theorem lw_p31 : lw_okq (⟨"InnPurposesModel", "empty", "(I)I"⟩, 46) := ⟨⟨by decide +kernel, by decide +kernel⟩, List.mem_of_getElem? (i := 852) (by decide +kernel), List.mem_of_getElem? (i := 1039) (by decide +kernel), List.mem_of_getElem? (i := 1040) (by decide +kernel)⟩
def lw_privs_2 : List (MethodName × Nat) := [(⟨"InnPurposes", "settle", "(LInnPurposes$Inn;)V"⟩, 13), (⟨"InnPurposes", "goNight", "(LInnPurposes$Inn;)V"⟩, 13), (⟨"InnPurposes", "behind", "(I)LInnPurposes$Inn;"⟩, 13), (⟨"InnPurposes", "fewestDecoys", "(LInnPurposes$Guest;II)I"⟩, 13), (⟨"InnPurposes", "keeps", "(LInnPurposes$Lure;III)Z"⟩, 13), (⟨"InnPurposes", "goRow", "(LInnPurposes$Inn;II)V"⟩, 13), (⟨"InnPurposes$Stage", "own", "(LInnPurposes$Guest;III)I"⟩, 2), (⟨"InnPurposes$Stage", "runs", "(LInnPurposes$Guest;IIII)I"⟩, 2), (⟨"InnPurposes$Stage", "note", "(I)V"⟩, 2), (⟨"InnPurposesModel", "isOne", "(I)Z"⟩, 46), (⟨"InnPurposesModel", "tempts", "(II)I"⟩, 46), (⟨"InnPurposesModel", "sum", "(II)I"⟩, 46), (⟨"InnPurposesModel", "isTrue", "(III)Z"⟩, 46), (⟨"InnPurposesModel", "letterOf", "(III)I"⟩, 46), (⟨"InnPurposesModel", "prey", "(I)I"⟩, 46), (⟨"InnPurposesModel", "empty", "(I)I"⟩, 46)]
theorem lw_r2 : ∀ q ∈ lw_privs_2, lw_okq q := List.forall_mem_cons.mpr ⟨lw_p16, List.forall_mem_cons.mpr ⟨lw_p17, List.forall_mem_cons.mpr ⟨lw_p18, List.forall_mem_cons.mpr ⟨lw_p19, List.forall_mem_cons.mpr ⟨lw_p20, List.forall_mem_cons.mpr ⟨lw_p21, List.forall_mem_cons.mpr ⟨lw_p22, List.forall_mem_cons.mpr ⟨lw_p23, List.forall_mem_cons.mpr ⟨lw_p24, List.forall_mem_cons.mpr ⟨lw_p25, List.forall_mem_cons.mpr ⟨lw_p26, List.forall_mem_cons.mpr ⟨lw_p27, List.forall_mem_cons.mpr ⟨lw_p28, List.forall_mem_cons.mpr ⟨lw_p29, List.forall_mem_cons.mpr ⟨lw_p30, List.forall_mem_cons.mpr ⟨lw_p31, fun _ h => absurd h List.not_mem_nil⟩⟩⟩⟩⟩⟩⟩⟩⟩⟩⟩⟩⟩⟩⟩⟩
theorem lw_p32 : lw_okq (⟨"InnPurposesModel", "keep", "([I)V"⟩, 46) := ⟨⟨by decide +kernel, by decide +kernel⟩, List.mem_of_getElem? (i := 852) (by decide +kernel), List.mem_of_getElem? (i := 1043) (by decide +kernel), List.mem_of_getElem? (i := 1044) (by decide +kernel)⟩
theorem lw_p33 : lw_okq (⟨"InnPurposesModel", "goesNight", "()V"⟩, 46) := ⟨⟨by decide +kernel, by decide +kernel⟩, List.mem_of_getElem? (i := 852) (by decide +kernel), List.mem_of_getElem? (i := 1047) (by decide +kernel), List.mem_of_getElem? (i := 1048) (by decide +kernel)⟩
theorem lw_p34 : lw_okq (⟨"InnPurposesModel", "keepOf", "()I"⟩, 46) := ⟨⟨by decide +kernel, by decide +kernel⟩, List.mem_of_getElem? (i := 852) (by decide +kernel), List.mem_of_getElem? (i := 1052) (by decide +kernel), List.mem_of_getElem? (i := 1053) (by decide +kernel)⟩
theorem lw_p35 : lw_okq (⟨"InnPurposesModel", "again", "([I)V"⟩, 46) := ⟨⟨by decide +kernel, by decide +kernel⟩, List.mem_of_getElem? (i := 852) (by decide +kernel), List.mem_of_getElem? (i := 1057) (by decide +kernel), List.mem_of_getElem? (i := 1058) (by decide +kernel)⟩
theorem lw_p36 : lw_okq (⟨"InnPurposesModel", "backTo", "(I)I"⟩, 46) := ⟨⟨by decide +kernel, by decide +kernel⟩, List.mem_of_getElem? (i := 852) (by decide +kernel), List.mem_of_getElem? (i := 1061) (by decide +kernel), List.mem_of_getElem? (i := 1062) (by decide +kernel)⟩
theorem lw_p37 : lw_okq (⟨"InnPurposesModel", "isClause", "(I)Z"⟩, 46) := ⟨⟨by decide +kernel, by decide +kernel⟩, List.mem_of_getElem? (i := 852) (by decide +kernel), List.mem_of_getElem? (i := 1093) (by decide +kernel), List.mem_of_getElem? (i := 1094) (by decide +kernel)⟩
theorem lw_p38 : lw_okq (⟨"InnPurposesModel", "isAll", "(Ljava/lang/String;)Z"⟩, 46) := ⟨⟨by decide +kernel, by decide +kernel⟩, List.mem_of_getElem? (i := 852) (by decide +kernel), List.mem_of_getElem? (i := 1098) (by decide +kernel), List.mem_of_getElem? (i := 1099) (by decide +kernel)⟩
theorem lw_p39 : lw_okq (⟨"InnPurposesModel", "is", "(I)Z"⟩, 46) := ⟨⟨by decide +kernel, by decide +kernel⟩, List.mem_of_getElem? (i := 852) (by decide +kernel), List.mem_of_getElem? (i := 1104) (by decide +kernel), List.mem_of_getElem? (i := 1105) (by decide +kernel)⟩
theorem lw_p40 : lw_okq (⟨"InnPurposesModel", "isNumber", "()Z"⟩, 46) := ⟨⟨by decide +kernel, by decide +kernel⟩, List.mem_of_getElem? (i := 852) (by decide +kernel), List.mem_of_getElem? (i := 1110) (by decide +kernel), List.mem_of_getElem? (i := 1111) (by decide +kernel)⟩
theorem lw_p41 : lw_okq (⟨"InnPurposesModel", "isDigit", "()Z"⟩, 46) := ⟨⟨by decide +kernel, by decide +kernel⟩, List.mem_of_getElem? (i := 852) (by decide +kernel), List.mem_of_getElem? (i := 1114) (by decide +kernel), List.mem_of_getElem? (i := 1115) (by decide +kernel)⟩
theorem lw_p42 : lw_okq (⟨"InnPurposesModel", "isE", "()Z"⟩, 46) := ⟨⟨by decide +kernel, by decide +kernel⟩, List.mem_of_getElem? (i := 852) (by decide +kernel), List.mem_of_getElem? (i := 1118) (by decide +kernel), List.mem_of_getElem? (i := 1119) (by decide +kernel)⟩
theorem lw_p43 : lw_okq (⟨"InnPurposesModel", "isT", "()Z"⟩, 46) := ⟨⟨by decide +kernel, by decide +kernel⟩, List.mem_of_getElem? (i := 852) (by decide +kernel), List.mem_of_getElem? (i := 1122) (by decide +kernel), List.mem_of_getElem? (i := 1123) (by decide +kernel)⟩
theorem lw_p44 : lw_okq (⟨"InnPurposesModel", "isF", "()Z"⟩, 46) := ⟨⟨by decide +kernel, by decide +kernel⟩, List.mem_of_getElem? (i := 852) (by decide +kernel), List.mem_of_getElem? (i := 1126) (by decide +kernel), List.mem_of_getElem? (i := 1127) (by decide +kernel)⟩
theorem lw_p45 : lw_okq (⟨"InnPurposesModel", "isOpened", "(I)Z"⟩, 46) := ⟨⟨by decide +kernel, by decide +kernel⟩, List.mem_of_getElem? (i := 852) (by decide +kernel), List.mem_of_getElem? (i := 1130) (by decide +kernel), List.mem_of_getElem? (i := 1131) (by decide +kernel)⟩
theorem lw_p46 : lw_okq (⟨"InnPurposesModel", "codes", "(I)Z"⟩, 46) := ⟨⟨by decide +kernel, by decide +kernel⟩, List.mem_of_getElem? (i := 852) (by decide +kernel), List.mem_of_getElem? (i := 1134) (by decide +kernel), List.mem_of_getElem? (i := 1135) (by decide +kernel)⟩
theorem lw_p47 : lw_okq (⟨"InnPurposesModel", "isTest", "()Z"⟩, 46) := ⟨⟨by decide +kernel, by decide +kernel⟩, List.mem_of_getElem? (i := 852) (by decide +kernel), List.mem_of_getElem? (i := 1138) (by decide +kernel), List.mem_of_getElem? (i := 1139) (by decide +kernel)⟩
def lw_privs_3 : List (MethodName × Nat) := [(⟨"InnPurposesModel", "keep", "([I)V"⟩, 46), (⟨"InnPurposesModel", "goesNight", "()V"⟩, 46), (⟨"InnPurposesModel", "keepOf", "()I"⟩, 46), (⟨"InnPurposesModel", "again", "([I)V"⟩, 46), (⟨"InnPurposesModel", "backTo", "(I)I"⟩, 46), (⟨"InnPurposesModel", "isClause", "(I)Z"⟩, 46), (⟨"InnPurposesModel", "isAll", "(Ljava/lang/String;)Z"⟩, 46), (⟨"InnPurposesModel", "is", "(I)Z"⟩, 46), (⟨"InnPurposesModel", "isNumber", "()Z"⟩, 46), (⟨"InnPurposesModel", "isDigit", "()Z"⟩, 46), (⟨"InnPurposesModel", "isE", "()Z"⟩, 46), (⟨"InnPurposesModel", "isT", "()Z"⟩, 46), (⟨"InnPurposesModel", "isF", "()Z"⟩, 46), (⟨"InnPurposesModel", "isOpened", "(I)Z"⟩, 46), (⟨"InnPurposesModel", "codes", "(I)Z"⟩, 46), (⟨"InnPurposesModel", "isTest", "()Z"⟩, 46)]
theorem lw_r3 : ∀ q ∈ lw_privs_3, lw_okq q := List.forall_mem_cons.mpr ⟨lw_p32, List.forall_mem_cons.mpr ⟨lw_p33, List.forall_mem_cons.mpr ⟨lw_p34, List.forall_mem_cons.mpr ⟨lw_p35, List.forall_mem_cons.mpr ⟨lw_p36, List.forall_mem_cons.mpr ⟨lw_p37, List.forall_mem_cons.mpr ⟨lw_p38, List.forall_mem_cons.mpr ⟨lw_p39, List.forall_mem_cons.mpr ⟨lw_p40, List.forall_mem_cons.mpr ⟨lw_p41, List.forall_mem_cons.mpr ⟨lw_p42, List.forall_mem_cons.mpr ⟨lw_p43, List.forall_mem_cons.mpr ⟨lw_p44, List.forall_mem_cons.mpr ⟨lw_p45, List.forall_mem_cons.mpr ⟨lw_p46, List.forall_mem_cons.mpr ⟨lw_p47, fun _ h => absurd h List.not_mem_nil⟩⟩⟩⟩⟩⟩⟩⟩⟩⟩⟩⟩⟩⟩⟩⟩
theorem lw_p48 : lw_okq (⟨"InnPurposesModel", "allMean", "()I"⟩, 46) := ⟨⟨by decide +kernel, by decide +kernel⟩, List.mem_of_getElem? (i := 852) (by decide +kernel), List.mem_of_getElem? (i := 1149) (by decide +kernel), List.mem_of_getElem? (i := 1150) (by decide +kernel)⟩
theorem lw_p49 : lw_okq (⟨"InnPurposesModel", "ring", "()I"⟩, 46) := ⟨⟨by decide +kernel, by decide +kernel⟩, List.mem_of_getElem? (i := 852) (by decide +kernel), List.mem_of_getElem? (i := 1154) (by decide +kernel), List.mem_of_getElem? (i := 1155) (by decide +kernel)⟩
theorem lw_p50 : lw_okq (⟨"InnPurposesModel", "ringFrom", "(IIII)I"⟩, 46) := ⟨⟨by decide +kernel, by decide +kernel⟩, List.mem_of_getElem? (i := 852) (by decide +kernel), List.mem_of_getElem? (i := 1158) (by decide +kernel), List.mem_of_getElem? (i := 1159) (by decide +kernel)⟩
theorem lw_p51 : lw_okq (⟨"InnPurposesModel", "mayGive", "(II)I"⟩, 46) := ⟨⟨by decide +kernel, by decide +kernel⟩, List.mem_of_getElem? (i := 852) (by decide +kernel), List.mem_of_getElem? (i := 1162) (by decide +kernel), List.mem_of_getElem? (i := 1163) (by decide +kernel)⟩
theorem lw_p52 : lw_okq (⟨"InnPurposesModel", "allIn", "()I"⟩, 46) := ⟨⟨by decide +kernel, by decide +kernel⟩, List.mem_of_getElem? (i := 852) (by decide +kernel), List.mem_of_getElem? (i := 1166) (by decide +kernel), List.mem_of_getElem? (i := 1167) (by decide +kernel)⟩
theorem lw_p53 : lw_okq (⟨"InnPurposesModel", "goesOne", "(I)V"⟩, 46) := ⟨⟨by decide +kernel, by decide +kernel⟩, List.mem_of_getElem? (i := 852) (by decide +kernel), List.mem_of_getElem? (i := 1186) (by decide +kernel), List.mem_of_getElem? (i := 1187) (by decide +kernel)⟩
theorem lw_p54 : lw_okq (⟨"InnPurposesModel", "restores", "(IIII)V"⟩, 46) := ⟨⟨by decide +kernel, by decide +kernel⟩, List.mem_of_getElem? (i := 852) (by decide +kernel), List.mem_of_getElem? (i := 1190) (by decide +kernel), List.mem_of_getElem? (i := 1191) (by decide +kernel)⟩
theorem lw_p55 : lw_okq (⟨"InnPurposesModel", "isSeen", "(I)Z"⟩, 46) := ⟨⟨by decide +kernel, by decide +kernel⟩, List.mem_of_getElem? (i := 852) (by decide +kernel), List.mem_of_getElem? (i := 1202) (by decide +kernel), List.mem_of_getElem? (i := 1203) (by decide +kernel)⟩
theorem lw_p56 : lw_okq (⟨"InnPurposesModel", "allCellar", "()I"⟩, 46) := ⟨⟨by decide +kernel, by decide +kernel⟩, List.mem_of_getElem? (i := 852) (by decide +kernel), List.mem_of_getElem? (i := 1232) (by decide +kernel), List.mem_of_getElem? (i := 1233) (by decide +kernel)⟩
theorem lw_p57 : lw_okq (⟨"InnPurposesModel", "sleeps", "(III)I"⟩, 46) := ⟨⟨by decide +kernel, by decide +kernel⟩, List.mem_of_getElem? (i := 852) (by decide +kernel), List.mem_of_getElem? (i := 1260) (by decide +kernel), List.mem_of_getElem? (i := 1261) (by decide +kernel)⟩
theorem lw_p58 : lw_okq (⟨"InnPurposesModel", "ran", "(I)V"⟩, 46) := ⟨⟨by decide +kernel, by decide +kernel⟩, List.mem_of_getElem? (i := 852) (by decide +kernel), List.mem_of_getElem? (i := 1264) (by decide +kernel), List.mem_of_getElem? (i := 1265) (by decide +kernel)⟩
theorem lw_p59 : lw_okq (⟨"InnPurposesModel", "wakes", "(III)I"⟩, 46) := ⟨⟨by decide +kernel, by decide +kernel⟩, List.mem_of_getElem? (i := 852) (by decide +kernel), List.mem_of_getElem? (i := 1271) (by decide +kernel), List.mem_of_getElem? (i := 1272) (by decide +kernel)⟩
theorem lw_p60 : lw_okq (⟨"InnPurposesModel", "tells", "(III)I"⟩, 46) := ⟨⟨by decide +kernel, by decide +kernel⟩, List.mem_of_getElem? (i := 852) (by decide +kernel), List.mem_of_getElem? (i := 1275) (by decide +kernel), List.mem_of_getElem? (i := 1276) (by decide +kernel)⟩
def lw_privs_4 : List (MethodName × Nat) := [(⟨"InnPurposesModel", "allMean", "()I"⟩, 46), (⟨"InnPurposesModel", "ring", "()I"⟩, 46), (⟨"InnPurposesModel", "ringFrom", "(IIII)I"⟩, 46), (⟨"InnPurposesModel", "mayGive", "(II)I"⟩, 46), (⟨"InnPurposesModel", "allIn", "()I"⟩, 46), (⟨"InnPurposesModel", "goesOne", "(I)V"⟩, 46), (⟨"InnPurposesModel", "restores", "(IIII)V"⟩, 46), (⟨"InnPurposesModel", "isSeen", "(I)Z"⟩, 46), (⟨"InnPurposesModel", "allCellar", "()I"⟩, 46), (⟨"InnPurposesModel", "sleeps", "(III)I"⟩, 46), (⟨"InnPurposesModel", "ran", "(I)V"⟩, 46), (⟨"InnPurposesModel", "wakes", "(III)I"⟩, 46), (⟨"InnPurposesModel", "tells", "(III)I"⟩, 46)]
theorem lw_r4 : ∀ q ∈ lw_privs_4, lw_okq q := List.forall_mem_cons.mpr ⟨lw_p48, List.forall_mem_cons.mpr ⟨lw_p49, List.forall_mem_cons.mpr ⟨lw_p50, List.forall_mem_cons.mpr ⟨lw_p51, List.forall_mem_cons.mpr ⟨lw_p52, List.forall_mem_cons.mpr ⟨lw_p53, List.forall_mem_cons.mpr ⟨lw_p54, List.forall_mem_cons.mpr ⟨lw_p55, List.forall_mem_cons.mpr ⟨lw_p56, List.forall_mem_cons.mpr ⟨lw_p57, List.forall_mem_cons.mpr ⟨lw_p58, List.forall_mem_cons.mpr ⟨lw_p59, List.forall_mem_cons.mpr ⟨lw_p60, fun _ h => absurd h List.not_mem_nil⟩⟩⟩⟩⟩⟩⟩⟩⟩⟩⟩⟩⟩
def lw_privs : List (MethodName × Nat) := lw_privs_1 ++ (lw_privs_2 ++ (lw_privs_3 ++ (lw_privs_4)))
def lw_tbl : List Cond := k2_sels lw_privs ++ tables_1
theorem lw_privs_ok : ∀ q ∈ lw_privs, lw_okq q := by
  show ∀ q ∈ lw_privs_1 ++ (lw_privs_2 ++ (lw_privs_3 ++ (lw_privs_4))), lw_okq q
  exact List.forall_mem_append.mpr ⟨lw_r1, List.forall_mem_append.mpr ⟨lw_r2, List.forall_mem_append.mpr ⟨lw_r3, lw_r4⟩⟩⟩
-- ===== end of PART A; then your names; then what follows =====
end
section
def RX0 : String := "InnPurposes$Guest"
def TX0 : u_T := fun k => match k with
  | 0 => ("InnPurposes$Guest", "number", "I", true)
  | 1 => ("InnPurposes$Guest", "kind", "I", false)
  | 2 => ("InnPurposes$Guest", "v", "I", false)
  | 3 => ("InnPurposes$Guest", "means", "I", false)
  | 4 => ("InnPurposes$Guest", "lost", "I", false)
  | 5 => ("InnPurposes$Guest", "in", "Z", false)
  | _ => ("InnPurposes$Guest", "parts", "[I", true)
def tyX0 : Nat → FieldType := fun k => match k with
  | 0 => .int
  | 1 => .int
  | 2 => .int
  | 3 => .int
  | 4 => .int
  | 5 => .boolean
  | _ => .array .int
theorem nmX0 : ∀ a, a < 7 → ∀ b, b < 7 → a ≠ b → (TX0 a).2.1 ≠ (TX0 b).2.1 := by decide +kernel
theorem tyX0_ok : ∀ k, k < 7 → parseFieldDescriptor (TX0 k).2.2.1 = some (tyX0 k) := by decide +kernel
abbrev cX0_init : ByteArray := prog_2_method_1_code
def yX0_init : MethodName := ⟨RX0, "<init>", "(I)V"⟩
abbrev cX0_come : ByteArray := prog_2_method_2_code
def yX0_come : MethodName := ⟨RX0, "come", "(III)V"⟩
abbrev cX0_become : ByteArray := prog_2_method_3_code
def yX0_become : MethodName := ⟨RX0, "become", "(LInnPurposes$Guest;)V"⟩
abbrev cX0_missed : ByteArray := prog_2_method_4_code
def yX0_missed : MethodName := ⟨RX0, "missed", "()I"⟩
def RX1 : String := "InnPurposes$House"
def TX1 : u_T := fun k => match k with
  | 0 => ("InnPurposes$House", "keep", "I", false)
  | 1 => ("InnPurposes$House", "steps", "[I", true)
  | _ => ("InnPurposes$House", "stepCount", "I", false)
def tyX1 : Nat → FieldType := fun k => match k with
  | 0 => .int
  | 1 => .array .int
  | _ => .int
theorem nmX1 : ∀ a, a < 3 → ∀ b, b < 3 → a ≠ b → (TX1 a).2.1 ≠ (TX1 b).2.1 := by decide +kernel
theorem tyX1_ok : ∀ k, k < 3 → parseFieldDescriptor (TX1 k).2.2.1 = some (tyX1 k) := by decide +kernel
abbrev cX1_init : ByteArray := prog_3_method_1_code
def yX1_init : MethodName := ⟨RX1, "<init>", "()V"⟩
abbrev cX1_clear : ByteArray := prog_3_method_2_code
def yX1_clear : MethodName := ⟨RX1, "clear", "()V"⟩
abbrev cX1_add : ByteArray := prog_3_method_3_code
def yX1_add : MethodName := ⟨RX1, "add", "(I)V"⟩
abbrev cX1_sway : ByteArray := prog_3_method_4_code
def yX1_sway : MethodName := ⟨RX1, "sway", "([I)I"⟩
def RX2 : String := "InnPurposes$Inn"
def TX2 : u_T := fun k => match k with
  | 0 => ("InnPurposes$Inn", "weights", "[I", true)
  | 1 => ("InnPurposes$Inn", "cellar", "[I", true)
  | 2 => ("InnPurposes$Inn", "guests", "[LInnPurposes$Guest;", true)
  | 3 => ("InnPurposes$Inn", "guestCount", "I", false)
  | 4 => ("InnPurposes$Inn", "night", "I", false)
  | 5 => ("InnPurposes$Inn", "house", "LInnPurposes$House;", false)
  | 6 => ("InnPurposes$Inn", "seen", "LInnPurposes$Rows;", true)
  | 7 => ("InnPurposes$Inn", "plan", "LInnPurposes$Rows;", true)
  | _ => ("InnPurposes$Inn", "book", "LInnPurposes$Rows;", true)
def tyX2 : Nat → FieldType := fun k => match k with
  | 0 => .array .int
  | 1 => .array .int
  | 2 => .array (.object "InnPurposes$Guest")
  | 3 => .int
  | 4 => .int
  | 5 => .object "InnPurposes$House"
  | 6 => .object "InnPurposes$Rows"
  | 7 => .object "InnPurposes$Rows"
  | _ => .object "InnPurposes$Rows"
theorem nmX2 : ∀ a, a < 9 → ∀ b, b < 9 → a ≠ b → (TX2 a).2.1 ≠ (TX2 b).2.1 := by decide +kernel
theorem tyX2_ok : ∀ k, k < 9 → parseFieldDescriptor (TX2 k).2.2.1 = some (tyX2 k) := by decide +kernel
abbrev cX2_init : ByteArray := prog_4_method_1_code
def yX2_init : MethodName := ⟨RX2, "<init>", "(LInnPurposes$House;)V"⟩
abbrev cX2_become : ByteArray := prog_4_method_2_code
def yX2_become : MethodName := ⟨RX2, "become", "(LInnPurposes$Inn;)V"⟩
abbrev cX2_goOnFrom : ByteArray := prog_4_method_3_code
def yX2_goOnFrom : MethodName := ⟨RX2, "goOnFrom", "(LInnPurposes$Inn;)V"⟩
abbrev cX2_take : ByteArray := prog_4_method_4_code
def yX2_take : MethodName := ⟨RX2, "take", "(LInnPurposes$Guest;I)V"⟩
abbrev cX2_letGo : ByteArray := prog_4_method_5_code
def yX2_letGo : MethodName := ⟨RX2, "letGo", "()V"⟩
abbrev cX2_meantByAll : ByteArray := prog_4_method_6_code
def yX2_meantByAll : MethodName := ⟨RX2, "meantByAll", "()I"⟩
abbrev cX2_whoIsIn : ByteArray := prog_4_method_7_code
def yX2_whoIsIn : MethodName := ⟨RX2, "whoIsIn", "()I"⟩
abbrev cX2_inCellar : ByteArray := prog_4_method_8_code
def yX2_inCellar : MethodName := ⟨RX2, "inCellar", "()I"⟩
abbrev cX2_storedInAll : ByteArray := prog_4_method_9_code
def yX2_storedInAll : MethodName := ⟨RX2, "storedInAll", "()I"⟩
def RX3 : String := "InnPurposes$Lure"
def TX3 : u_T := fun k => match k with
  | 0 => ("InnPurposes$Lure", "inn", "LInnPurposes$Inn;", false)
  | 1 => ("InnPurposes$Lure", "guest", "LInnPurposes$Guest;", false)
  | 2 => ("InnPurposes$Lure", "ranked", "[[I", true)
  | 3 => ("InnPurposes$Lure", "many", "[I", true)
  | 4 => ("InnPurposes$Lure", "strengths", "[I", true)
  | _ => ("InnPurposes$Lure", "facts", "[I", true)
def tyX3 : Nat → FieldType := fun k => match k with
  | 0 => .object "InnPurposes$Inn"
  | 1 => .object "InnPurposes$Guest"
  | 2 => .array (.array .int)
  | 3 => .array .int
  | 4 => .array .int
  | _ => .array .int
theorem nmX3 : ∀ a, a < 6 → ∀ b, b < 6 → a ≠ b → (TX3 a).2.1 ≠ (TX3 b).2.1 := by decide +kernel
theorem tyX3_ok : ∀ k, k < 6 → parseFieldDescriptor (TX3 k).2.2.1 = some (tyX3 k) := by decide +kernel
abbrev cX3_init : ByteArray := prog_5_method_1_code
def yX3_init : MethodName := ⟨RX3, "<init>", "(LInnPurposes$Inn;LInnPurposes$Guest;)V"⟩
abbrev cX3_settle : ByteArray := prog_5_method_2_code
def yX3_settle : MethodName := ⟨RX3, "settle", "(LInnPurposes$Inn;LInnPurposes$Guest;)V"⟩
abbrev cX3_tempts : ByteArray := prog_5_method_3_code
def yX3_tempts : MethodName := ⟨RX3, "tempts", "(II)I"⟩
abbrev cX3_learn : ByteArray := prog_5_method_4_code
def yX3_learn : MethodName := ⟨RX3, "learn", "(III)V"⟩
abbrev cX3_prey : ByteArray := prog_5_method_5_code
def yX3_prey : MethodName := ⟨RX3, "prey", "(II)I"⟩
abbrev cX3_rank : ByteArray := prog_5_method_6_code
def yX3_rank : MethodName := ⟨RX3, "rank", "(I)V"⟩
def RX4 : String := "InnPurposes$Reader"
def TX4 : u_T := fun k => match k with
  | 0 => ("InnPurposes$Reader", "signs", "[I", true)
  | 1 => ("InnPurposes$Reader", "length", "I", false)
  | _ => ("InnPurposes$Reader", "at", "I", false)
def tyX4 : Nat → FieldType := fun k => match k with
  | 0 => .array .int
  | 1 => .int
  | _ => .int
theorem nmX4 : ∀ a, a < 3 → ∀ b, b < 3 → a ≠ b → (TX4 a).2.1 ≠ (TX4 b).2.1 := by decide +kernel
theorem tyX4_ok : ∀ k, k < 3 → parseFieldDescriptor (TX4 k).2.2.1 = some (tyX4 k) := by decide +kernel
abbrev cX4_init : ByteArray := prog_6_method_1_code
def yX4_init : MethodName := ⟨RX4, "<init>", "()V"⟩
abbrev cX4_takesIn : ByteArray := prog_6_method_2_code
def yX4_takesIn : MethodName := ⟨RX4, "takesIn", "(I)Z"⟩
abbrev cX4_builds : ByteArray := prog_6_method_3_code
def yX4_builds : MethodName := ⟨RX4, "builds", "(LInnPurposes$House;)Z"⟩
abbrev cX4_readsClause : ByteArray := prog_6_method_4_code
def yX4_readsClause : MethodName := ⟨RX4, "readsClause", "(LInnPurposes$House;)Z"⟩
abbrev cX4_readsChoice : ByteArray := prog_6_method_5_code
def yX4_readsChoice : MethodName := ⟨RX4, "readsChoice", "(LInnPurposes$House;I)Z"⟩
abbrev cX4_readsOne : ByteArray := prog_6_method_6_code
def yX4_readsOne : MethodName := ⟨RX4, "readsOne", "(LInnPurposes$House;I)Z"⟩
abbrev cX4_readsTest : ByteArray := prog_6_method_7_code
def yX4_readsTest : MethodName := ⟨RX4, "readsTest", "(LInnPurposes$House;)Z"⟩
abbrev cX4_readsAnyOf : ByteArray := prog_6_method_8_code
def yX4_readsAnyOf : MethodName := ⟨RX4, "readsAnyOf", "(Ljava/lang/String;)I"⟩
abbrev cX4_readsNumber : ByteArray := prog_6_method_9_code
def yX4_readsNumber : MethodName := ⟨RX4, "readsNumber", "()I"⟩
abbrev cX4_next : ByteArray := prog_6_method_10_code
def yX4_next : MethodName := ⟨RX4, "next", "()I"⟩
abbrev cX4_takes : ByteArray := prog_6_method_11_code
def yX4_takes : MethodName := ⟨RX4, "takes", "(C)Z"⟩
def RX5 : String := "InnPurposes$Ring"
def TX5 : u_T := fun k => match k with
  | 0 => ("InnPurposes$Ring", "gives", "[I", true)
  | _ => ("InnPurposes$Ring", "lasts", "[I", true)
def tyX5 : Nat → FieldType := fun k => match k with
  | 0 => .array .int
  | _ => .array .int
theorem nmX5 : ∀ a, a < 2 → ∀ b, b < 2 → a ≠ b → (TX5 a).2.1 ≠ (TX5 b).2.1 := by decide +kernel
theorem tyX5_ok : ∀ k, k < 2 → parseFieldDescriptor (TX5 k).2.2.1 = some (tyX5 k) := by decide +kernel
abbrev cX5_init : ByteArray := prog_7_method_1_code
def yX5_init : MethodName := ⟨RX5, "<init>", "()V"⟩
abbrev cX5_longest : ByteArray := prog_7_method_2_code
def yX5_longest : MethodName := ⟨RX5, "longest", "(LInnPurposes$Inn;)I"⟩
abbrev cX5_takersOf : ByteArray := prog_7_method_3_code
def yX5_takersOf : MethodName := ⟨RX5, "takersOf", "(LInnPurposes$Inn;LInnPurposes$Guest;)I"⟩
abbrev cX5_longestFrom : ByteArray := prog_7_method_4_code
def yX5_longestFrom : MethodName := ⟨RX5, "longestFrom", "(II)I"⟩
abbrev cX5_goOn : ByteArray := prog_7_method_5_code
def yX5_goOn : MethodName := ⟨RX5, "goOn", "(III)V"⟩
def RX6 : String := "InnPurposes$Rows"
def TX6 : u_T := fun k => match k with
  | 0 => ("InnPurposes$Rows", "cells", "[[I", true)
  | _ => ("InnPurposes$Rows", "count", "I", false)
def tyX6 : Nat → FieldType := fun k => match k with
  | 0 => .array (.array .int)
  | _ => .int
theorem nmX6 : ∀ a, a < 2 → ∀ b, b < 2 → a ≠ b → (TX6 a).2.1 ≠ (TX6 b).2.1 := by decide +kernel
theorem tyX6_ok : ∀ k, k < 2 → parseFieldDescriptor (TX6 k).2.2.1 = some (tyX6 k) := by decide +kernel
abbrev cX6_init : ByteArray := prog_8_method_1_code
def yX6_init : MethodName := ⟨RX6, "<init>", "(I)V"⟩
abbrev cX6_add : ByteArray := prog_8_method_2_code
def yX6_add : MethodName := ⟨RX6, "add", "(IIII)I"⟩
abbrev cX6_become : ByteArray := prog_8_method_3_code
def yX6_become : MethodName := ⟨RX6, "become", "(LInnPurposes$Rows;)V"⟩
def RX7 : String := "InnPurposes$Sight"
def TX7 : u_T := fun k => match k with
  | 0 => ("InnPurposes$Sight", "must", "[I", true)
  | 1 => ("InnPurposes$Sight", "mustNot", "[I", true)
  | _ => ("InnPurposes$Sight", "last", "I", false)
def tyX7 : Nat → FieldType := fun k => match k with
  | 0 => .array .int
  | 1 => .array .int
  | _ => .int
theorem nmX7 : ∀ a, a < 3 → ∀ b, b < 3 → a ≠ b → (TX7 a).2.1 ≠ (TX7 b).2.1 := by decide +kernel
theorem tyX7_ok : ∀ k, k < 3 → parseFieldDescriptor (TX7 k).2.2.1 = some (tyX7 k) := by decide +kernel
abbrev cX7_init : ByteArray := prog_9_method_1_code
def yX7_init : MethodName := ⟨RX7, "<init>", "()V"⟩
abbrev cX7_gather : ByteArray := prog_9_method_2_code
def yX7_gather : MethodName := ⟨RX7, "gather", "(LInnPurposes$Rows;I)V"⟩
abbrev cX7_fits : ByteArray := prog_9_method_3_code
def yX7_fits : MethodName := ⟨RX7, "fits", "(LInnPurposes$Lure;II)Z"⟩
def RX8 : String := "InnPurposes$Stage"
def TX8 : u_T := fun k => match k with
  | 0 => ("InnPurposes$Stage", "bodies", "[I", true)
  | _ => ("InnPurposes$Stage", "ran", "I", false)
def tyX8 : Nat → FieldType := fun k => match k with
  | 0 => .array .int
  | _ => .int
theorem nmX8 : ∀ a, a < 2 → ∀ b, b < 2 → a ≠ b → (TX8 a).2.1 ≠ (TX8 b).2.1 := by decide +kernel
theorem tyX8_ok : ∀ k, k < 2 → parseFieldDescriptor (TX8 k).2.2.1 = some (tyX8 k) := by decide +kernel
abbrev cX8_init : ByteArray := prog_10_method_1_code
def yX8_init : MethodName := ⟨RX8, "<init>", "()V"⟩
abbrev cX8_plays : ByteArray := prog_10_method_2_code
def yX8_plays : MethodName := ⟨RX8, "plays", "(LInnPurposes$Guest;II)I"⟩
abbrev cX8_own : ByteArray := prog_10_method_3_code
def yX8_own : MethodName := ⟨RX8, "own", "(LInnPurposes$Guest;III)I"⟩
abbrev cX8_runs : ByteArray := prog_10_method_4_code
def yX8_runs : MethodName := ⟨RX8, "runs", "(LInnPurposes$Guest;IIII)I"⟩
abbrev cX8_bodyFrom : ByteArray := prog_10_method_5_code
def yX8_bodyFrom : MethodName := ⟨RX8, "bodyFrom", "(II)I"⟩
abbrev cX8_note : ByteArray := prog_10_method_6_code
def yX8_note : MethodName := ⟨RX8, "note", "(I)V"⟩
def RX9 : String := "InnPurposes$Tape"
def TX9 : u_T := fun k => match k with
  | 0 => ("InnPurposes$Tape", "sort", "I", false)
  | 1 => ("InnPurposes$Tape", "length", "I", false)
  | _ => ("InnPurposes$Tape", "items", "[J", true)
def tyX9 : Nat → FieldType := fun k => match k with
  | 0 => .int
  | 1 => .int
  | _ => .array .long
theorem nmX9 : ∀ a, a < 3 → ∀ b, b < 3 → a ≠ b → (TX9 a).2.1 ≠ (TX9 b).2.1 := by decide +kernel
theorem tyX9_ok : ∀ k, k < 3 → parseFieldDescriptor (TX9 k).2.2.1 = some (tyX9 k) := by decide +kernel
abbrev cX9_init : ByteArray := prog_11_method_1_code
def yX9_init : MethodName := ⟨RX9, "<init>", "()V"⟩
abbrev cX9_become : ByteArray := prog_11_method_2_code
def yX9_become : MethodName := ⟨RX9, "become", "(II)V"⟩
abbrev cX9_isPart : ByteArray := prog_11_method_3_code
def yX9_isPart : MethodName := ⟨RX9, "isPart", "(II)Z"⟩
abbrev cX9_cut : ByteArray := prog_11_method_4_code
def yX9_cut : MethodName := ⟨RX9, "cut", "(J)J"⟩
def RX10 : String := "InnPurposes"
def TX10 : u_T := fun k => match k with
  | 0 => ("InnPurposes", "bare", "LInnPurposes$House;", true)
  | 1 => ("InnPurposes", "now", "LInnPurposes$Inn;", true)
  | 2 => ("InnPurposes", "image", "LInnPurposes$Inn;", true)
  | 3 => ("InnPurposes", "trial", "LInnPurposes$Inn;", true)
  | 4 => ("InnPurposes", "imaged", "Z", false)
  | 5 => ("InnPurposes", "reader", "LInnPurposes$Reader;", true)
  | 6 => ("InnPurposes", "houses", "[LInnPurposes$House;", true)
  | 7 => ("InnPurposes", "houseCount", "I", false)
  | 8 => ("InnPurposes", "lures", "[LInnPurposes$Lure;", true)
  | 9 => ("InnPurposes", "sight", "LInnPurposes$Sight;", true)
  | 10 => ("InnPurposes", "ring", "LInnPurposes$Ring;", true)
  | 11 => ("InnPurposes", "stage", "LInnPurposes$Stage;", true)
  | _ => ("InnPurposes", "tapes", "[LInnPurposes$Tape;", true)
def tyX10 : Nat → FieldType := fun k => match k with
  | 0 => .object "InnPurposes$House"
  | 1 => .object "InnPurposes$Inn"
  | 2 => .object "InnPurposes$Inn"
  | 3 => .object "InnPurposes$Inn"
  | 4 => .boolean
  | 5 => .object "InnPurposes$Reader"
  | 6 => .array (.object "InnPurposes$House")
  | 7 => .int
  | 8 => .array (.object "InnPurposes$Lure")
  | 9 => .object "InnPurposes$Sight"
  | 10 => .object "InnPurposes$Ring"
  | 11 => .object "InnPurposes$Stage"
  | _ => .array (.object "InnPurposes$Tape")
theorem nmX10 : ∀ a, a < 13 → ∀ b, b < 13 → a ≠ b → (TX10 a).2.1 ≠ (TX10 b).2.1 := by decide +kernel
theorem tyX10_ok : ∀ k, k < 13 → parseFieldDescriptor (TX10 k).2.2.1 = some (tyX10 k) := by decide +kernel
abbrev cX10_init : ByteArray := prog_1_method_1_code
def yX10_init : MethodName := ⟨RX10, "<init>", "()V"⟩
abbrev cX10_guest : ByteArray := prog_1_method_2_code
def yX10_guest : MethodName := ⟨RX10, "guest", "(III)I"⟩
abbrev cX10_of : ByteArray := prog_1_method_3_code
def yX10_of : MethodName := ⟨RX10, "of", "(II)I"⟩
abbrev cX10_set : ByteArray := prog_1_method_4_code
def yX10_set : MethodName := ⟨RX10, "set", "(III)I"⟩
abbrev cX10_weight : ByteArray := prog_1_method_5_code
def yX10_weight : MethodName := ⟨RX10, "weight", "(II)I"⟩
abbrev cX10_stay : ByteArray := prog_1_method_6_code
def yX10_stay : MethodName := ⟨RX10, "stay", "(IZ)I"⟩
abbrev cX10_redeem : ByteArray := prog_1_method_7_code
def yX10_redeem : MethodName := ⟨RX10, "redeem", "(II)I"⟩
abbrev cX10_row : ByteArray := prog_1_method_8_code
def yX10_row : MethodName := ⟨RX10, "row", "(III)I"⟩
abbrev cX10_feed : ByteArray := prog_1_method_9_code
def yX10_feed : MethodName := ⟨RX10, "feed", "(I)I"⟩
abbrev cX10_house : ByteArray := prog_1_method_10_code
def yX10_house : MethodName := ⟨RX10, "house", "()I"⟩
abbrev cX10_told : ByteArray := prog_1_method_11_code
def yX10_told : MethodName := ⟨RX10, "told", "(I)I"⟩
abbrev cX10_pass : ByteArray := prog_1_method_12_code
def yX10_pass : MethodName := ⟨RX10, "pass", "(I)I"⟩
abbrev cX10_on : ByteArray := prog_1_method_13_code
def yX10_on : MethodName := ⟨RX10, "on", "(II)I"⟩
abbrev cX10_lasts : ByteArray := prog_1_method_14_code
def yX10_lasts : MethodName := ⟨RX10, "lasts", "(II)I"⟩
abbrev cX10_decoys : ByteArray := prog_1_method_15_code
def yX10_decoys : MethodName := ⟨RX10, "decoys", "(III)I"⟩
abbrev cX10_see : ByteArray := prog_1_method_16_code
def yX10_see : MethodName := ⟨RX10, "see", "(IIIZ)I"⟩
abbrev cX10_meant : ByteArray := prog_1_method_17_code
def yX10_meant : MethodName := ⟨RX10, "meant", "(II)I"⟩
abbrev cX10_can : ByteArray := prog_1_method_18_code
def yX10_can : MethodName := ⟨RX10, "can", "(II)I"⟩
abbrev cX10_odds : ByteArray := prog_1_method_19_code
def yX10_odds : MethodName := ⟨RX10, "odds", "(II)J"⟩
abbrev cX10_mean : ByteArray := prog_1_method_20_code
def yX10_mean : MethodName := ⟨RX10, "mean", "(II)J"⟩
abbrev cX10_plan : ByteArray := prog_1_method_21_code
def yX10_plan : MethodName := ⟨RX10, "plan", "(II)I"⟩
abbrev cX10_ends : ByteArray := prog_1_method_22_code
def yX10_ends : MethodName := ⟨RX10, "ends", "(I)I"⟩
abbrev cX10_book : ByteArray := prog_1_method_23_code
def yX10_book : MethodName := ⟨RX10, "book", "(II)I"⟩
abbrev cX10_looked : ByteArray := prog_1_method_24_code
def yX10_looked : MethodName := ⟨RX10, "looked", "()I"⟩
abbrev cX10_judge : ByteArray := prog_1_method_25_code
def yX10_judge : MethodName := ⟨RX10, "judge", "(II)I"⟩
abbrev cX10_image : ByteArray := prog_1_method_26_code
def yX10_image : MethodName := ⟨RX10, "image", "()I"⟩
abbrev cX10_undo : ByteArray := prog_1_method_27_code
def yX10_undo : MethodName := ⟨RX10, "undo", "()I"⟩
abbrev cX10_act : ByteArray := prog_1_method_28_code
def yX10_act : MethodName := ⟨RX10, "act", "(III)I"⟩
abbrev cX10_trace : ByteArray := prog_1_method_29_code
def yX10_trace : MethodName := ⟨RX10, "trace", "(I)I"⟩
abbrev cX10_taken : ByteArray := prog_1_method_30_code
def yX10_taken : MethodName := ⟨RX10, "taken", "(II)I"⟩
abbrev cX10_count : ByteArray := prog_1_method_31_code
def yX10_count : MethodName := ⟨RX10, "count", "(I)I"⟩
abbrev cX10_tape : ByteArray := prog_1_method_32_code
def yX10_tape : MethodName := ⟨RX10, "tape", "(III)I"⟩
abbrev cX10_item : ByteArray := prog_1_method_33_code
def yX10_item : MethodName := ⟨RX10, "item", "(IIJ)I"⟩
abbrev cX10_read : ByteArray := prog_1_method_34_code
def yX10_read : MethodName := ⟨RX10, "read", "(II)J"⟩
abbrev cX10_shift : ByteArray := prog_1_method_35_code
def yX10_shift : MethodName := ⟨RX10, "shift", "(IIIII)I"⟩
abbrev cX10_isBelow : ByteArray := prog_1_method_36_code
def yX10_isBelow : MethodName := ⟨RX10, "isBelow", "(II)Z"⟩
abbrev cX10_isWithin : ByteArray := prog_1_method_37_code
def yX10_isWithin : MethodName := ⟨RX10, "isWithin", "(II)Z"⟩
abbrev cX10_isPurpose : ByteArray := prog_1_method_38_code
def yX10_isPurpose : MethodName := ⟨RX10, "isPurpose", "(I)Z"⟩
abbrev cX10_isGuest : ByteArray := prog_1_method_39_code
def yX10_isGuest : MethodName := ⟨RX10, "isGuest", "(I)Z"⟩
abbrev cX10_has : ByteArray := prog_1_method_40_code
def yX10_has : MethodName := ⟨RX10, "has", "(II)Z"⟩
abbrev cX10_without : ByteArray := prog_1_method_41_code
def yX10_without : MethodName := ⟨RX10, "without", "(II)I"⟩
abbrev cX10_isUnder : ByteArray := prog_1_method_42_code
def yX10_isUnder : MethodName := ⟨RX10, "isUnder", "(II)Z"⟩
abbrev cX10_lureOf : ByteArray := prog_1_method_43_code
def yX10_lureOf : MethodName := ⟨RX10, "lureOf", "(LInnPurposes$Guest;)LInnPurposes$Lure;"⟩
abbrev cX10_settle : ByteArray := prog_1_method_44_code
def yX10_settle : MethodName := ⟨RX10, "settle", "(LInnPurposes$Inn;)V"⟩
abbrev cX10_goNight : ByteArray := prog_1_method_45_code
def yX10_goNight : MethodName := ⟨RX10, "goNight", "(LInnPurposes$Inn;)V"⟩
abbrev cX10_behind : ByteArray := prog_1_method_46_code
def yX10_behind : MethodName := ⟨RX10, "behind", "(I)LInnPurposes$Inn;"⟩
abbrev cX10_goRow : ByteArray := prog_1_method_47_code
def yX10_goRow : MethodName := ⟨RX10, "goRow", "(LInnPurposes$Inn;II)V"⟩
abbrev cX10_nightsToEmpty : ByteArray := prog_1_method_48_code
def yX10_nightsToEmpty : MethodName := ⟨RX10, "nightsToEmpty", "(LInnPurposes$Guest;)I"⟩
abbrev cX10_backTo : ByteArray := prog_1_method_49_code
def yX10_backTo : MethodName := ⟨RX10, "backTo", "(LInnPurposes$Guest;)I"⟩
abbrev cX10_fewestDecoys : ByteArray := prog_1_method_50_code
def yX10_fewestDecoys : MethodName := ⟨RX10, "fewestDecoys", "(LInnPurposes$Guest;II)I"⟩
abbrev cX10_keeps : ByteArray := prog_1_method_51_code
def yX10_keeps : MethodName := ⟨RX10, "keeps", "(LInnPurposes$Lure;III)Z"⟩
abbrev cX10_lowest : ByteArray := prog_1_method_52_code
def yX10_lowest : MethodName := ⟨RX10, "lowest", "(III)J"⟩
def RX11 : String := "InnPurposesModel"
def TX11 : u_T := fun k => match k with
  | 0 => ("InnPurposesModel", "weight", "[I", true)
  | 1 => ("InnPurposesModel", "cellar", "[I", true)
  | 2 => ("InnPurposesModel", "guests", "I", false)
  | 3 => ("InnPurposesModel", "kind", "[I", true)
  | 4 => ("InnPurposesModel", "v", "[I", true)
  | 5 => ("InnPurposesModel", "means", "[I", true)
  | 6 => ("InnPurposesModel", "lost", "[I", true)
  | 7 => ("InnPurposesModel", "in", "[I", true)
  | 8 => ("InnPurposesModel", "rows", "[I", true)
  | 9 => ("InnPurposesModel", "night", "I", false)
  | 10 => ("InnPurposesModel", "texted", "I", false)
  | 11 => ("InnPurposesModel", "text", "[I", true)
  | 12 => ("InnPurposesModel", "at", "I", false)
  | 13 => ("InnPurposesModel", "value", "I", false)
  | 14 => ("InnPurposesModel", "digits", "I", false)
  | 15 => ("InnPurposesModel", "open", "I", false)
  | 16 => ("InnPurposesModel", "inns", "I", false)
  | 17 => ("InnPurposesModel", "holds", "I", false)
  | 18 => ("InnPurposesModel", "clauses", "[I", true)
  | 19 => ("InnPurposesModel", "word", "[I", true)
  | 20 => ("InnPurposesModel", "number", "[I", true)
  | 21 => ("InnPurposesModel", "begins", "[I", true)
  | 22 => ("InnPurposesModel", "length", "[I", true)
  | 23 => ("InnPurposesModel", "code", "[I", true)
  | 24 => ("InnPurposesModel", "coded", "I", false)
  | 25 => ("InnPurposesModel", "stack", "[Z", true)
  | 26 => ("InnPurposesModel", "seen", "I", false)
  | 27 => ("InnPurposesModel", "seenBy", "[I", true)
  | 28 => ("InnPurposesModel", "seenIn", "[I", true)
  | 29 => ("InnPurposesModel", "seenOf", "[I", true)
  | 30 => ("InnPurposesModel", "seenSo", "[I", true)
  | 31 => ("InnPurposesModel", "inPlan", "I", false)
  | 32 => ("InnPurposesModel", "goes", "[I", true)
  | 33 => ("InnPurposesModel", "whose", "[I", true)
  | 34 => ("InnPurposesModel", "inBook", "I", false)
  | 35 => ("InnPurposesModel", "booked", "[I", true)
  | 36 => ("InnPurposesModel", "bookOften", "[I", true)
  | 37 => ("InnPurposesModel", "traced", "I", false)
  | 38 => ("InnPurposesModel", "traces", "[I", true)
  | 39 => ("InnPurposesModel", "imaged", "Z", false)
  | 40 => ("InnPurposesModel", "image", "[I", true)
  | 41 => ("InnPurposesModel", "ahead", "[I", true)
  | 42 => ("InnPurposesModel", "taken", "[I", true)
  | 43 => ("InnPurposesModel", "tapeSort", "[I", true)
  | 44 => ("InnPurposesModel", "tapeSize", "[I", true)
  | _ => ("InnPurposesModel", "items", "[J", true)
def tyX11 : Nat → FieldType := fun k => match k with
  | 0 => .array .int
  | 1 => .array .int
  | 2 => .int
  | 3 => .array .int
  | 4 => .array .int
  | 5 => .array .int
  | 6 => .array .int
  | 7 => .array .int
  | 8 => .array .int
  | 9 => .int
  | 10 => .int
  | 11 => .array .int
  | 12 => .int
  | 13 => .int
  | 14 => .int
  | 15 => .int
  | 16 => .int
  | 17 => .int
  | 18 => .array .int
  | 19 => .array .int
  | 20 => .array .int
  | 21 => .array .int
  | 22 => .array .int
  | 23 => .array .int
  | 24 => .int
  | 25 => .array .boolean
  | 26 => .int
  | 27 => .array .int
  | 28 => .array .int
  | 29 => .array .int
  | 30 => .array .int
  | 31 => .int
  | 32 => .array .int
  | 33 => .array .int
  | 34 => .int
  | 35 => .array .int
  | 36 => .array .int
  | 37 => .int
  | 38 => .array .int
  | 39 => .boolean
  | 40 => .array .int
  | 41 => .array .int
  | 42 => .array .int
  | 43 => .array .int
  | 44 => .array .int
  | _ => .array .long
theorem nmX11 : ∀ a, a < 46 → ∀ b, b < 46 → a ≠ b → (TX11 a).2.1 ≠ (TX11 b).2.1 := by decide +kernel
theorem tyX11_ok : ∀ k, k < 46 → parseFieldDescriptor (TX11 k).2.2.1 = some (tyX11 k) := by decide +kernel
abbrev cX11_init : ByteArray := prog_13_method_1_code
def yX11_init : MethodName := ⟨RX11, "<init>", "()V"⟩
abbrev cX11_within : ByteArray := prog_13_method_2_code
def yX11_within : MethodName := ⟨RX11, "within", "(III)Z"⟩
abbrev cX11_isOne : ByteArray := prog_13_method_3_code
def yX11_isOne : MethodName := ⟨RX11, "isOne", "(I)Z"⟩
abbrev cX11_isPurpose : ByteArray := prog_13_method_4_code
def yX11_isPurpose : MethodName := ⟨RX11, "isPurpose", "(I)Z"⟩
abbrev cX11_has : ByteArray := prog_13_method_5_code
def yX11_has : MethodName := ⟨RX11, "has", "(II)Z"⟩
abbrev cX11_guest : ByteArray := prog_13_method_6_code
def yX11_guest : MethodName := ⟨RX11, "guest", "(III)I"⟩
abbrev cX11_of : ByteArray := prog_13_method_7_code
def yX11_of : MethodName := ⟨RX11, "of", "(II)I"⟩
abbrev cX11_set : ByteArray := prog_13_method_8_code
def yX11_set : MethodName := ⟨RX11, "set", "(III)I"⟩
abbrev cX11_weight : ByteArray := prog_13_method_9_code
def yX11_weight : MethodName := ⟨RX11, "weight", "(II)I"⟩
abbrev cX11_stay : ByteArray := prog_13_method_10_code
def yX11_stay : MethodName := ⟨RX11, "stay", "(IZ)I"⟩
abbrev cX11_redeem : ByteArray := prog_13_method_11_code
def yX11_redeem : MethodName := ⟨RX11, "redeem", "(II)I"⟩
abbrev cX11_row : ByteArray := prog_13_method_12_code
def yX11_row : MethodName := ⟨RX11, "row", "(III)I"⟩
abbrev cX11_feed : ByteArray := prog_13_method_13_code
def yX11_feed : MethodName := ⟨RX11, "feed", "(I)I"⟩
abbrev cX11_is : ByteArray := prog_13_method_14_code
def yX11_is : MethodName := ⟨RX11, "is", "(I)Z"⟩
abbrev cX11_isDigit : ByteArray := prog_13_method_15_code
def yX11_isDigit : MethodName := ⟨RX11, "isDigit", "()Z"⟩
abbrev cX11_isNumber : ByteArray := prog_13_method_16_code
def yX11_isNumber : MethodName := ⟨RX11, "isNumber", "()Z"⟩
abbrev cX11_isAll : ByteArray := prog_13_method_17_code
def yX11_isAll : MethodName := ⟨RX11, "isAll", "(Ljava/lang/String;)Z"⟩
abbrev cX11_codes : ByteArray := prog_13_method_18_code
def yX11_codes : MethodName := ⟨RX11, "codes", "(I)Z"⟩
abbrev cX11_isTest : ByteArray := prog_13_method_19_code
def yX11_isTest : MethodName := ⟨RX11, "isTest", "()Z"⟩
abbrev cX11_isOpened : ByteArray := prog_13_method_20_code
def yX11_isOpened : MethodName := ⟨RX11, "isOpened", "(I)Z"⟩
abbrev cX11_isF : ByteArray := prog_13_method_21_code
def yX11_isF : MethodName := ⟨RX11, "isF", "()Z"⟩
abbrev cX11_isT : ByteArray := prog_13_method_22_code
def yX11_isT : MethodName := ⟨RX11, "isT", "()Z"⟩
abbrev cX11_isE : ByteArray := prog_13_method_23_code
def yX11_isE : MethodName := ⟨RX11, "isE", "()Z"⟩
abbrev cX11_isClause : ByteArray := prog_13_method_24_code
def yX11_isClause : MethodName := ⟨RX11, "isClause", "(I)Z"⟩
abbrev cX11_house : ByteArray := prog_13_method_25_code
def yX11_house : MethodName := ⟨RX11, "house", "()I"⟩
abbrev cX11_letterOf : ByteArray := prog_13_method_26_code
def yX11_letterOf : MethodName := ⟨RX11, "letterOf", "(III)I"⟩
abbrev cX11_isTrue : ByteArray := prog_13_method_27_code
def yX11_isTrue : MethodName := ⟨RX11, "isTrue", "(III)Z"⟩
abbrev cX11_sum : ByteArray := prog_13_method_28_code
def yX11_sum : MethodName := ⟨RX11, "sum", "(II)I"⟩
abbrev cX11_keepOf : ByteArray := prog_13_method_29_code
def yX11_keepOf : MethodName := ⟨RX11, "keepOf", "()I"⟩
abbrev cX11_tempts : ByteArray := prog_13_method_30_code
def yX11_tempts : MethodName := ⟨RX11, "tempts", "(II)I"⟩
abbrev cX11_prey : ByteArray := prog_13_method_31_code
def yX11_prey : MethodName := ⟨RX11, "prey", "(I)I"⟩
abbrev cX11_goesNight : ByteArray := prog_13_method_32_code
def yX11_goesNight : MethodName := ⟨RX11, "goesNight", "()V"⟩
abbrev cX11_allMean : ByteArray := prog_13_method_33_code
def yX11_allMean : MethodName := ⟨RX11, "allMean", "()I"⟩
abbrev cX11_allCellar : ByteArray := prog_13_method_34_code
def yX11_allCellar : MethodName := ⟨RX11, "allCellar", "()I"⟩
abbrev cX11_allIn : ByteArray := prog_13_method_35_code
def yX11_allIn : MethodName := ⟨RX11, "allIn", "()I"⟩
abbrev cX11_mayGive : ByteArray := prog_13_method_36_code
def yX11_mayGive : MethodName := ⟨RX11, "mayGive", "(II)I"⟩
abbrev cX11_ringFrom : ByteArray := prog_13_method_37_code
def yX11_ringFrom : MethodName := ⟨RX11, "ringFrom", "(IIII)I"⟩
abbrev cX11_ring : ByteArray := prog_13_method_38_code
def yX11_ring : MethodName := ⟨RX11, "ring", "()I"⟩
abbrev cX11_backTo : ByteArray := prog_13_method_39_code
def yX11_backTo : MethodName := ⟨RX11, "backTo", "(I)I"⟩
abbrev cX11_told : ByteArray := prog_13_method_40_code
def yX11_told : MethodName := ⟨RX11, "told", "(I)I"⟩
abbrev cX11_pass : ByteArray := prog_13_method_41_code
def yX11_pass : MethodName := ⟨RX11, "pass", "(I)I"⟩
abbrev cX11_on : ByteArray := prog_13_method_42_code
def yX11_on : MethodName := ⟨RX11, "on", "(II)I"⟩
abbrev cX11_empty : ByteArray := prog_13_method_43_code
def yX11_empty : MethodName := ⟨RX11, "empty", "(I)I"⟩
abbrev cX11_lasts : ByteArray := prog_13_method_44_code
def yX11_lasts : MethodName := ⟨RX11, "lasts", "(II)I"⟩
abbrev cX11_goesOne : ByteArray := prog_13_method_45_code
def yX11_goesOne : MethodName := ⟨RX11, "goesOne", "(I)V"⟩
abbrev cX11_restores : ByteArray := prog_13_method_46_code
def yX11_restores : MethodName := ⟨RX11, "restores", "(IIII)V"⟩
abbrev cX11_decoys : ByteArray := prog_13_method_47_code
def yX11_decoys : MethodName := ⟨RX11, "decoys", "(III)I"⟩
abbrev cX11_see : ByteArray := prog_13_method_48_code
def yX11_see : MethodName := ⟨RX11, "see", "(IIIZ)I"⟩
abbrev cX11_isSeen : ByteArray := prog_13_method_49_code
def yX11_isSeen : MethodName := ⟨RX11, "isSeen", "(I)Z"⟩
abbrev cX11_meant : ByteArray := prog_13_method_50_code
def yX11_meant : MethodName := ⟨RX11, "meant", "(II)I"⟩
abbrev cX11_can : ByteArray := prog_13_method_51_code
def yX11_can : MethodName := ⟨RX11, "can", "(II)I"⟩
abbrev cX11_part : ByteArray := prog_13_method_52_code
def yX11_part : MethodName := ⟨RX11, "part", "(JJI)J"⟩
abbrev cX11_odds : ByteArray := prog_13_method_53_code
def yX11_odds : MethodName := ⟨RX11, "odds", "(II)J"⟩
abbrev cX11_mean : ByteArray := prog_13_method_54_code
def yX11_mean : MethodName := ⟨RX11, "mean", "(II)J"⟩
abbrev cX11_plan : ByteArray := prog_13_method_55_code
def yX11_plan : MethodName := ⟨RX11, "plan", "(II)I"⟩
abbrev cX11_ends : ByteArray := prog_13_method_56_code
def yX11_ends : MethodName := ⟨RX11, "ends", "(I)I"⟩
abbrev cX11_book : ByteArray := prog_13_method_57_code
def yX11_book : MethodName := ⟨RX11, "book", "(II)I"⟩
abbrev cX11_looked : ByteArray := prog_13_method_58_code
def yX11_looked : MethodName := ⟨RX11, "looked", "()I"⟩
abbrev cX11_judge : ByteArray := prog_13_method_59_code
def yX11_judge : MethodName := ⟨RX11, "judge", "(II)I"⟩
abbrev cX11_keep : ByteArray := prog_13_method_60_code
def yX11_keep : MethodName := ⟨RX11, "keep", "([I)V"⟩
abbrev cX11_again : ByteArray := prog_13_method_61_code
def yX11_again : MethodName := ⟨RX11, "again", "([I)V"⟩
abbrev cX11_image : ByteArray := prog_13_method_62_code
def yX11_image : MethodName := ⟨RX11, "image", "()I"⟩
abbrev cX11_undo : ByteArray := prog_13_method_63_code
def yX11_undo : MethodName := ⟨RX11, "undo", "()I"⟩
abbrev cX11_ran : ByteArray := prog_13_method_64_code
def yX11_ran : MethodName := ⟨RX11, "ran", "(I)V"⟩
abbrev cX11_above : ByteArray := prog_13_method_65_code
def yX11_above : MethodName := ⟨RX11, "above", "(I)I"⟩
abbrev cX11_sleeps : ByteArray := prog_13_method_66_code
def yX11_sleeps : MethodName := ⟨RX11, "sleeps", "(III)I"⟩
abbrev cX11_wakes : ByteArray := prog_13_method_67_code
def yX11_wakes : MethodName := ⟨RX11, "wakes", "(III)I"⟩
abbrev cX11_tells : ByteArray := prog_13_method_68_code
def yX11_tells : MethodName := ⟨RX11, "tells", "(III)I"⟩
abbrev cX11_act : ByteArray := prog_13_method_69_code
def yX11_act : MethodName := ⟨RX11, "act", "(III)I"⟩
abbrev cX11_trace : ByteArray := prog_13_method_70_code
def yX11_trace : MethodName := ⟨RX11, "trace", "(I)I"⟩
abbrev cX11_taken : ByteArray := prog_13_method_71_code
def yX11_taken : MethodName := ⟨RX11, "taken", "(II)I"⟩
abbrev cX11_count : ByteArray := prog_13_method_72_code
def yX11_count : MethodName := ⟨RX11, "count", "(I)I"⟩
abbrev cX11_isTape : ByteArray := prog_13_method_73_code
def yX11_isTape : MethodName := ⟨RX11, "isTape", "(I)Z"⟩
abbrev cX11_tape : ByteArray := prog_13_method_74_code
def yX11_tape : MethodName := ⟨RX11, "tape", "(III)I"⟩
abbrev cX11_kept : ByteArray := prog_13_method_75_code
def yX11_kept : MethodName := ⟨RX11, "kept", "(IJ)J"⟩
abbrev cX11_item : ByteArray := prog_13_method_76_code
def yX11_item : MethodName := ⟨RX11, "item", "(IIJ)I"⟩
abbrev cX11_read : ByteArray := prog_13_method_77_code
def yX11_read : MethodName := ⟨RX11, "read", "(II)J"⟩
abbrev cX11_shift : ByteArray := prog_13_method_78_code
def yX11_shift : MethodName := ⟨RX11, "shift", "(IIIII)I"⟩
def RJx145de : String := "java/io/Serializable"
def RJx9f9b0 : String := "java/lang/CharSequence"
def RJ11 : String := "java/lang/Character"
abbrev cJ11_isValidCodePoint_9a6ad : ByteArray := prog_14_method_11_code
def yJ11_isValidCodePoint_9a6ad : MethodName := ⟨RJ11, "isValidCodePoint", "(I)Z"⟩
abbrev cJ11_highSurrogate_5068e : ByteArray := prog_14_method_28_code
def yJ11_highSurrogate_5068e : MethodName := ⟨RJ11, "highSurrogate", "(I)C"⟩
abbrev cJ11_lowSurrogate_5068e : ByteArray := prog_14_method_29_code
def yJ11_lowSurrogate_5068e : MethodName := ⟨RJ11, "lowSurrogate", "(I)C"⟩
def RJxb160c : String := "java/lang/Comparable"
def RJ6 : String := "java/lang/Integer"
abbrev cJ6_bitCount_0f7a4 : ByteArray := prog_15_method_49_code
def yJ6_bitCount_0f7a4 : MethodName := ⟨RJ6, "bitCount", "(I)I"⟩
def RJ9 : String := "java/lang/Math"
abbrev cJ9_max_7cf53 : ByteArray := prog_16_method_65_code
def yJ9_max_7cf53 : MethodName := ⟨RJ9, "max", "(II)I"⟩
abbrev cJ9_min_7cf53 : ByteArray := prog_16_method_69_code
def yJ9_min_7cf53 : MethodName := ⟨RJ9, "min", "(II)I"⟩
def RJ0 : String := "java/lang/String"
abbrev cJ0_length_8abf5 : ByteArray := prog_17_method_54_code
def yJ0_length_8abf5 : MethodName := ⟨RJ0, "length", "()I"⟩
abbrev cJ0_charAt_5068e : ByteArray := prog_17_method_56_code
def yJ0_charAt_5068e : MethodName := ⟨RJ0, "charAt", "(I)C"⟩
abbrev cJ0_indexOf_0f7a4 : ByteArray := prog_17_method_79_code
def yJ0_indexOf_0f7a4 : MethodName := ⟨RJ0, "indexOf", "(I)I"⟩
abbrev cJ0_indexOf_7cf53 : ByteArray := prog_17_method_80_code
def yJ0_indexOf_7cf53 : MethodName := ⟨RJ0, "indexOf", "(II)I"⟩
abbrev cJ0_coder_7d493 : ByteArray := prog_17_method_152_code
def yJ0_coder_7d493 : MethodName := ⟨RJ0, "coder", "()B"⟩
abbrev cJ0_isLatin1_aae02 : ByteArray := prog_17_method_154_code
def yJ0_isLatin1_aae02 : MethodName := ⟨RJ0, "isLatin1", "()Z"⟩
abbrev cJ0_checkIndex_df160 : ByteArray := prog_17_method_155_code
def yJ0_checkIndex_df160 : MethodName := ⟨RJ0, "checkIndex", "(II)V"⟩
abbrev cJ0_checkBoundsBeginEnd_23922 : ByteArray := prog_17_method_158_code
def yJ0_checkBoundsBeginEnd_23922 : MethodName := ⟨RJ0, "checkBoundsBeginEnd", "(III)V"⟩
def RJ1 : String := "java/lang/StringLatin1"
abbrev cJ1_charAt_3b067 : ByteArray := prog_18_method_2_code
def yJ1_charAt_3b067 : MethodName := ⟨RJ1, "charAt", "([BI)C"⟩
abbrev cJ1_canEncode_9a6ad : ByteArray := prog_18_method_4_code
def yJ1_canEncode_9a6ad : MethodName := ⟨RJ1, "canEncode", "(I)Z"⟩
abbrev cJ1_indexOf_4cfef : ByteArray := prog_18_method_22_code
def yJ1_indexOf_4cfef : MethodName := ⟨RJ1, "indexOf", "([BIII)I"⟩
abbrev cJ1_indexOfChar_4cfef : ByteArray := prog_18_method_23_code
def yJ1_indexOfChar_4cfef : MethodName := ⟨RJ1, "indexOfChar", "([BIII)I"⟩
def RJ2 : String := "java/lang/StringUTF16"
abbrev cJ2_getChar_3b067 : ByteArray := prog_19_method_5_code
def yJ2_getChar_3b067 : MethodName := ⟨RJ2, "getChar", "([BI)C"⟩
abbrev cJ2_length_9d52b : ByteArray := prog_19_method_6_code
def yJ2_length_9d52b : MethodName := ⟨RJ2, "length", "([B)I"⟩
abbrev cJ2_indexOf_4cfef : ByteArray := prog_19_method_40_code
def yJ2_indexOf_4cfef : MethodName := ⟨RJ2, "indexOf", "([BIII)I"⟩
abbrev cJ2_indexOfChar_4cfef : ByteArray := prog_19_method_47_code
def yJ2_indexOfChar_4cfef : MethodName := ⟨RJ2, "indexOfChar", "([BIII)I"⟩
abbrev cJ2_indexOfCharUnsafe_4cfef : ByteArray := prog_19_method_48_code
def yJ2_indexOfCharUnsafe_4cfef : MethodName := ⟨RJ2, "indexOfCharUnsafe", "([BIII)I"⟩
abbrev cJ2_indexOfSupplementary_4cfef : ByteArray := prog_19_method_49_code
def yJ2_indexOfSupplementary_4cfef : MethodName := ⟨RJ2, "indexOfSupplementary", "([BIII)I"⟩
abbrev cJ2_charAt_3b067 : ByteArray := prog_19_method_83_code
def yJ2_charAt_3b067 : MethodName := ⟨RJ2, "charAt", "([BI)C"⟩
abbrev cJ2_checkIndex_2214a : ByteArray := prog_19_method_91_code
def yJ2_checkIndex_2214a : MethodName := ⟨RJ2, "checkIndex", "(I[B)V"⟩
abbrev cJ2_checkBoundsBeginEnd_d044e : ByteArray := prog_19_method_93_code
def yJ2_checkBoundsBeginEnd_d044e : MethodName := ⟨RJ2, "checkBoundsBeginEnd", "(II[B)V"⟩
def RJ10 : String := "java/lang/System"
def RJxfd54e : String := "java/lang/constant/Constable"
def RJx3cf43 : String := "java/lang/constant/ConstantDesc"
def RJ7 : String := "java/util/Arrays"
abbrev cJ7_fill_d0a16 : ByteArray := prog_21_method_101_code
def yJ7_fill_d0a16 : MethodName := ⟨RJ7, "fill", "([JJ)V"⟩
abbrev cJ7_fill_53178 : ByteArray := prog_21_method_103_code
def yJ7_fill_53178 : MethodName := ⟨RJ7, "fill", "([II)V"⟩
def RJ3 : String := "jdk/internal/util/Preconditions"
abbrev cJ3_checkIndex_8e157 : ByteArray := prog_22_method_11_code
def yJ3_checkIndex_8e157 : MethodName := ⟨RJ3, "checkIndex", "(IILjava/util/function/BiFunction;)I"⟩
abbrev cJ3_checkFromToIndex_8c36e : ByteArray := prog_22_method_12_code
def yJ3_checkFromToIndex_8c36e : MethodName := ⟨RJ3, "checkFromToIndex", "(IIILjava/util/function/BiFunction;)I"⟩
def RL : String := "InnPurposesLaw"
abbrev cL_law : ByteArray := code
def yL_law : MethodName := ⟨RL, "law", "([I)Z"⟩
end
section
theorem dX0_init_0 : decode cX0_init 0 = .ok (.aload_n 0, 1) := by decide +kernel
theorem dX0_init_1 : decode cX0_init 1 = .ok (.invokespecial 3, 3) := by decide +kernel
theorem dX0_init_4 : decode cX0_init 4 = .ok (.aload_n 0, 1) := by decide +kernel
theorem dX0_init_5 : decode cX0_init 5 = .ok (.iconst 4, 1) := by decide +kernel
theorem dX0_init_6 : decode cX0_init 6 = .ok (.newarray .int, 2) := by decide +kernel
theorem dX0_init_8 : decode cX0_init 8 = .ok (.putfield 9, 3) := by decide +kernel
theorem dX0_init_11 : decode cX0_init 11 = .ok (.aload_n 0, 1) := by decide +kernel
theorem dX0_init_12 : decode cX0_init 12 = .ok (.iload_n 1, 1) := by decide +kernel
theorem dX0_init_13 : decode cX0_init 13 = .ok (.putfield 15, 3) := by decide +kernel
theorem dX0_init_16 : decode cX0_init 16 = .ok (.return_, 1) := by decide +kernel
theorem dX0_come_0 : decode cX0_come 0 = .ok (.aload_n 0, 1) := by decide +kernel
theorem dX0_come_1 : decode cX0_come 1 = .ok (.iload_n 1, 1) := by decide +kernel
theorem dX0_come_2 : decode cX0_come 2 = .ok (.putfield 19, 3) := by decide +kernel
theorem dX0_come_5 : decode cX0_come 5 = .ok (.aload_n 0, 1) := by decide +kernel
theorem dX0_come_6 : decode cX0_come 6 = .ok (.iload_n 2, 1) := by decide +kernel
theorem dX0_come_7 : decode cX0_come 7 = .ok (.putfield 22, 3) := by decide +kernel
theorem dX0_come_10 : decode cX0_come 10 = .ok (.aload_n 0, 1) := by decide +kernel
theorem dX0_come_11 : decode cX0_come 11 = .ok (.iload_n 3, 1) := by decide +kernel
theorem dX0_come_12 : decode cX0_come 12 = .ok (.putfield 25, 3) := by decide +kernel
theorem dX0_come_15 : decode cX0_come 15 = .ok (.aload_n 0, 1) := by decide +kernel
theorem dX0_come_16 : decode cX0_come 16 = .ok (.iconst 0, 1) := by decide +kernel
theorem dX0_come_17 : decode cX0_come 17 = .ok (.putfield 28, 3) := by decide +kernel
theorem dX0_come_20 : decode cX0_come 20 = .ok (.aload_n 0, 1) := by decide +kernel
theorem dX0_come_21 : decode cX0_come 21 = .ok (.iconst 1, 1) := by decide +kernel
theorem dX0_come_22 : decode cX0_come 22 = .ok (.putfield 31, 3) := by decide +kernel
theorem dX0_come_25 : decode cX0_come 25 = .ok (.aload_n 0, 1) := by decide +kernel
theorem dX0_come_26 : decode cX0_come 26 = .ok (.getfield 9, 3) := by decide +kernel
theorem dX0_come_29 : decode cX0_come 29 = .ok (.iconst 0, 1) := by decide +kernel
theorem dX0_come_30 : decode cX0_come 30 = .ok (.invokestatic 35, 3) := by decide +kernel
theorem dX0_come_33 : decode cX0_come 33 = .ok (.return_, 1) := by decide +kernel
theorem dX0_become_0 : decode cX0_become 0 = .ok (.aload_n 0, 1) := by decide +kernel
theorem dX0_become_1 : decode cX0_become 1 = .ok (.aload_n 1, 1) := by decide +kernel
theorem dX0_become_2 : decode cX0_become 2 = .ok (.getfield 19, 3) := by decide +kernel
theorem dX0_become_5 : decode cX0_become 5 = .ok (.putfield 19, 3) := by decide +kernel
theorem dX0_become_8 : decode cX0_become 8 = .ok (.aload_n 0, 1) := by decide +kernel
theorem dX0_become_9 : decode cX0_become 9 = .ok (.aload_n 1, 1) := by decide +kernel
theorem dX0_become_10 : decode cX0_become 10 = .ok (.getfield 22, 3) := by decide +kernel
theorem dX0_become_13 : decode cX0_become 13 = .ok (.putfield 22, 3) := by decide +kernel
theorem dX0_become_16 : decode cX0_become 16 = .ok (.aload_n 0, 1) := by decide +kernel
theorem dX0_become_17 : decode cX0_become 17 = .ok (.aload_n 1, 1) := by decide +kernel
theorem dX0_become_18 : decode cX0_become 18 = .ok (.getfield 25, 3) := by decide +kernel
theorem dX0_become_21 : decode cX0_become 21 = .ok (.putfield 25, 3) := by decide +kernel
theorem dX0_become_24 : decode cX0_become 24 = .ok (.aload_n 0, 1) := by decide +kernel
theorem dX0_become_25 : decode cX0_become 25 = .ok (.aload_n 1, 1) := by decide +kernel
theorem dX0_become_26 : decode cX0_become 26 = .ok (.getfield 28, 3) := by decide +kernel
theorem dX0_become_29 : decode cX0_become 29 = .ok (.putfield 28, 3) := by decide +kernel
theorem dX0_become_32 : decode cX0_become 32 = .ok (.aload_n 0, 1) := by decide +kernel
theorem dX0_become_33 : decode cX0_become 33 = .ok (.aload_n 1, 1) := by decide +kernel
theorem dX0_become_34 : decode cX0_become 34 = .ok (.getfield 31, 3) := by decide +kernel
theorem dX0_become_37 : decode cX0_become 37 = .ok (.putfield 31, 3) := by decide +kernel
theorem dX0_become_40 : decode cX0_become 40 = .ok (.aload_n 1, 1) := by decide +kernel
theorem dX0_become_41 : decode cX0_become 41 = .ok (.getfield 9, 3) := by decide +kernel
theorem dX0_become_44 : decode cX0_become 44 = .ok (.iconst 0, 1) := by decide +kernel
theorem dX0_become_45 : decode cX0_become 45 = .ok (.aload_n 0, 1) := by decide +kernel
theorem dX0_become_46 : decode cX0_become 46 = .ok (.getfield 9, 3) := by decide +kernel
theorem dX0_become_49 : decode cX0_become 49 = .ok (.iconst 0, 1) := by decide +kernel
theorem dX0_become_50 : decode cX0_become 50 = .ok (.iconst 4, 1) := by decide +kernel
theorem dX0_become_51 : decode cX0_become 51 = .ok (.invokestatic 41, 3) := by decide +kernel
theorem dX0_become_54 : decode cX0_become 54 = .ok (.return_, 1) := by decide +kernel
theorem dX0_missed_0 : decode cX0_missed 0 = .ok (.aload_n 0, 1) := by decide +kernel
theorem dX0_missed_1 : decode cX0_missed 1 = .ok (.getfield 28, 3) := by decide +kernel
theorem dX0_missed_4 : decode cX0_missed 4 = .ok (.aload_n 0, 1) := by decide +kernel
theorem dX0_missed_5 : decode cX0_missed 5 = .ok (.getfield 25, 3) := by decide +kernel
theorem dX0_missed_8 : decode cX0_missed 8 = .ok (.iconst (-1), 1) := by decide +kernel
theorem dX0_missed_9 : decode cX0_missed 9 = .ok (.ixor, 1) := by decide +kernel
theorem dX0_missed_10 : decode cX0_missed 10 = .ok (.iand, 1) := by decide +kernel
theorem dX0_missed_11 : decode cX0_missed 11 = .ok (.ireturn, 1) := by decide +kernel
theorem dX1_init_0 : decode cX1_init 0 = .ok (.aload_n 0, 1) := by decide +kernel
theorem dX1_init_1 : decode cX1_init 1 = .ok (.invokespecial 3, 3) := by decide +kernel
theorem dX1_init_4 : decode cX1_init 4 = .ok (.aload_n 0, 1) := by decide +kernel
theorem dX1_init_5 : decode cX1_init 5 = .ok (.iconst 3, 1) := by decide +kernel
theorem dX1_init_6 : decode cX1_init 6 = .ok (.putfield 9, 3) := by decide +kernel
theorem dX1_init_9 : decode cX1_init 9 = .ok (.aload_n 0, 1) := by decide +kernel
theorem dX1_init_10 : decode cX1_init 10 = .ok (.bipush 100, 2) := by decide +kernel
theorem dX1_init_12 : decode cX1_init 12 = .ok (.newarray .int, 2) := by decide +kernel
theorem dX1_init_14 : decode cX1_init 14 = .ok (.putfield 15, 3) := by decide +kernel
theorem dX1_init_17 : decode cX1_init 17 = .ok (.return_, 1) := by decide +kernel
theorem dX1_clear_0 : decode cX1_clear 0 = .ok (.aload_n 0, 1) := by decide +kernel
theorem dX1_clear_1 : decode cX1_clear 1 = .ok (.iconst 3, 1) := by decide +kernel
theorem dX1_clear_2 : decode cX1_clear 2 = .ok (.putfield 9, 3) := by decide +kernel
theorem dX1_clear_5 : decode cX1_clear 5 = .ok (.aload_n 0, 1) := by decide +kernel
theorem dX1_clear_6 : decode cX1_clear 6 = .ok (.iconst 0, 1) := by decide +kernel
theorem dX1_clear_7 : decode cX1_clear 7 = .ok (.putfield 19, 3) := by decide +kernel
theorem dX1_clear_10 : decode cX1_clear 10 = .ok (.return_, 1) := by decide +kernel
theorem dX1_add_0 : decode cX1_add 0 = .ok (.aload_n 0, 1) := by decide +kernel
theorem dX1_add_1 : decode cX1_add 1 = .ok (.getfield 19, 3) := by decide +kernel
theorem dX1_add_4 : decode cX1_add 4 = .ok (.bipush 100, 2) := by decide +kernel
theorem dX1_add_6 : decode cX1_add 6 = .ok (.if_icmp .ge 23, 3) := by decide +kernel
theorem dX1_add_9 : decode cX1_add 9 = .ok (.aload_n 0, 1) := by decide +kernel
theorem dX1_add_10 : decode cX1_add 10 = .ok (.getfield 15, 3) := by decide +kernel
theorem dX1_add_13 : decode cX1_add 13 = .ok (.aload_n 0, 1) := by decide +kernel
theorem dX1_add_14 : decode cX1_add 14 = .ok (.getfield 19, 3) := by decide +kernel
theorem dX1_add_17 : decode cX1_add 17 = .ok (.iload_n 1, 1) := by decide +kernel
theorem dX1_add_18 : decode cX1_add 18 = .ok (.iastore, 1) := by decide +kernel
theorem dX1_add_19 : decode cX1_add 19 = .ok (.aload_n 0, 1) := by decide +kernel
theorem dX1_add_20 : decode cX1_add 20 = .ok (.dup, 1) := by decide +kernel
theorem dX1_add_21 : decode cX1_add 21 = .ok (.getfield 19, 3) := by decide +kernel
theorem dX1_add_24 : decode cX1_add 24 = .ok (.iconst 1, 1) := by decide +kernel
theorem dX1_add_25 : decode cX1_add 25 = .ok (.iadd, 1) := by decide +kernel
theorem dX1_add_26 : decode cX1_add 26 = .ok (.putfield 19, 3) := by decide +kernel
theorem dX1_add_29 : decode cX1_add 29 = .ok (.return_, 1) := by decide +kernel
theorem dX1_sway_0 : decode cX1_sway 0 = .ok (.iconst 0, 1) := by decide +kernel
theorem dX1_sway_1 : decode cX1_sway 1 = .ok (.istore_n 2, 1) := by decide +kernel
theorem dX1_sway_2 : decode cX1_sway 2 = .ok (.iconst 0, 1) := by decide +kernel
theorem dX1_sway_3 : decode cX1_sway 3 = .ok (.istore_n 3, 1) := by decide +kernel
theorem dX1_sway_4 : decode cX1_sway 4 = .ok (.iconst 0, 1) := by decide +kernel
theorem dX1_sway_5 : decode cX1_sway 5 = .ok (.istore 4, 2) := by decide +kernel
theorem dX1_sway_7 : decode cX1_sway 7 = .ok (.iload 4, 2) := by decide +kernel
theorem dX1_sway_9 : decode cX1_sway 9 = .ok (.aload_n 0, 1) := by decide +kernel
theorem dX1_sway_10 : decode cX1_sway 10 = .ok (.getfield 19, 3) := by decide +kernel
theorem dX1_sway_13 : decode cX1_sway 13 = .ok (.if_icmp .ge 158, 3) := by decide +kernel
theorem dX1_sway_16 : decode cX1_sway 16 = .ok (.aload_n 0, 1) := by decide +kernel
theorem dX1_sway_17 : decode cX1_sway 17 = .ok (.getfield 15, 3) := by decide +kernel
theorem dX1_sway_20 : decode cX1_sway 20 = .ok (.iload 4, 2) := by decide +kernel
theorem dX1_sway_22 : decode cX1_sway 22 = .ok (.iaload, 1) := by decide +kernel
theorem dX1_sway_23 : decode cX1_sway 23 = .ok (.istore 5, 2) := by decide +kernel
theorem dX1_sway_25 : decode cX1_sway 25 = .ok (.iload 5, 2) := by decide +kernel
theorem dX1_sway_27 : decode cX1_sway 27 = .ok (.ldc 22, 2) := by decide +kernel
theorem dX1_sway_29 : decode cX1_sway 29 = .ok (.if_icmp .lt 27, 3) := by decide +kernel
theorem dX1_sway_32 : decode cX1_sway 32 = .ok (.iload_n 2, 1) := by decide +kernel
theorem dX1_sway_33 : decode cX1_sway 33 = .ok (.iload_n 3, 1) := by decide +kernel
theorem dX1_sway_34 : decode cX1_sway 34 = .ok (.iconst 1, 1) := by decide +kernel
theorem dX1_sway_35 : decode cX1_sway 35 = .ok (.iand, 1) := by decide +kernel
theorem dX1_sway_36 : decode cX1_sway 36 = .ok (.iconst 1, 1) := by decide +kernel
theorem dX1_sway_37 : decode cX1_sway 37 = .ok (.if_icmp .ne 11, 3) := by decide +kernel
theorem dX1_sway_40 : decode cX1_sway 40 = .ok (.iload 5, 2) := by decide +kernel
theorem dX1_sway_42 : decode cX1_sway 42 = .ok (.ldc 23, 2) := by decide +kernel
theorem dX1_sway_44 : decode cX1_sway 44 = .ok (.isub, 1) := by decide +kernel
theorem dX1_sway_45 : decode cX1_sway 45 = .ok (.goto 4, 3) := by decide +kernel
theorem dX1_sway_48 : decode cX1_sway 48 = .ok (.iconst 0, 1) := by decide +kernel
theorem dX1_sway_49 : decode cX1_sway 49 = .ok (.iadd, 1) := by decide +kernel
theorem dX1_sway_50 : decode cX1_sway 50 = .ok (.istore_n 2, 1) := by decide +kernel
theorem dX1_sway_51 : decode cX1_sway 51 = .ok (.iconst 0, 1) := by decide +kernel
theorem dX1_sway_52 : decode cX1_sway 52 = .ok (.istore_n 3, 1) := by decide +kernel
theorem dX1_sway_53 : decode cX1_sway 53 = .ok (.goto 112, 3) := by decide +kernel
theorem dX1_sway_56 : decode cX1_sway 56 = .ok (.iload 5, 2) := by decide +kernel
theorem dX1_sway_58 : decode cX1_sway 58 = .ok (.ifCond .lt 63, 3) := by decide +kernel
theorem dX1_sway_61 : decode cX1_sway 61 = .ok (.aload_n 1, 1) := by decide +kernel
theorem dX1_sway_62 : decode cX1_sway 62 = .ok (.iload 5, 2) := by decide +kernel
theorem dX1_sway_64 : decode cX1_sway 64 = .ok (.bipush 14, 2) := by decide +kernel
theorem dX1_sway_66 : decode cX1_sway 66 = .ok (.ishr, 1) := by decide +kernel
theorem dX1_sway_67 : decode cX1_sway 67 = .ok (.bipush 7, 2) := by decide +kernel
theorem dX1_sway_69 : decode cX1_sway 69 = .ok (.iand, 1) := by decide +kernel
theorem dX1_sway_70 : decode cX1_sway 70 = .ok (.iaload, 1) := by decide +kernel
theorem dX1_sway_71 : decode cX1_sway 71 = .ok (.istore 6, 2) := by decide +kernel
theorem dX1_sway_73 : decode cX1_sway 73 = .ok (.iload 6, 2) := by decide +kernel
theorem dX1_sway_75 : decode cX1_sway 75 = .ok (.iload 5, 2) := by decide +kernel
theorem dX1_sway_77 : decode cX1_sway 77 = .ok (.bipush 7, 2) := by decide +kernel
theorem dX1_sway_79 : decode cX1_sway 79 = .ok (.ishr, 1) := by decide +kernel
theorem dX1_sway_80 : decode cX1_sway 80 = .ok (.bipush 127, 2) := by decide +kernel
theorem dX1_sway_82 : decode cX1_sway 82 = .ok (.iand, 1) := by decide +kernel
theorem dX1_sway_83 : decode cX1_sway 83 = .ok (.if_icmp .lt 17, 3) := by decide +kernel
theorem dX1_sway_86 : decode cX1_sway 86 = .ok (.iload 6, 2) := by decide +kernel
theorem dX1_sway_88 : decode cX1_sway 88 = .ok (.iload 5, 2) := by decide +kernel
theorem dX1_sway_90 : decode cX1_sway 90 = .ok (.bipush 127, 2) := by decide +kernel
theorem dX1_sway_92 : decode cX1_sway 92 = .ok (.iand, 1) := by decide +kernel
theorem dX1_sway_93 : decode cX1_sway 93 = .ok (.if_icmp .ge 7, 3) := by decide +kernel
theorem dX1_sway_96 : decode cX1_sway 96 = .ok (.iconst 1, 1) := by decide +kernel
theorem dX1_sway_97 : decode cX1_sway 97 = .ok (.goto 4, 3) := by decide +kernel
theorem dX1_sway_100 : decode cX1_sway 100 = .ok (.iconst 0, 1) := by decide +kernel
theorem dX1_sway_101 : decode cX1_sway 101 = .ok (.istore 7, 2) := by decide +kernel
theorem dX1_sway_103 : decode cX1_sway 103 = .ok (.iload_n 3, 1) := by decide +kernel
theorem dX1_sway_104 : decode cX1_sway 104 = .ok (.iconst 1, 1) := by decide +kernel
theorem dX1_sway_105 : decode cX1_sway 105 = .ok (.ishl, 1) := by decide +kernel
theorem dX1_sway_106 : decode cX1_sway 106 = .ok (.iload 7, 2) := by decide +kernel
theorem dX1_sway_108 : decode cX1_sway 108 = .ok (.ifCond .eq 7, 3) := by decide +kernel
theorem dX1_sway_111 : decode cX1_sway 111 = .ok (.iconst 1, 1) := by decide +kernel
theorem dX1_sway_112 : decode cX1_sway 112 = .ok (.goto 4, 3) := by decide +kernel
theorem dX1_sway_115 : decode cX1_sway 115 = .ok (.iconst 0, 1) := by decide +kernel
theorem dX1_sway_116 : decode cX1_sway 116 = .ok (.ior, 1) := by decide +kernel
theorem dX1_sway_117 : decode cX1_sway 117 = .ok (.istore_n 3, 1) := by decide +kernel
theorem dX1_sway_118 : decode cX1_sway 118 = .ok (.goto 47, 3) := by decide +kernel
theorem dX1_sway_121 : decode cX1_sway 121 = .ok (.iload 5, 2) := by decide +kernel
theorem dX1_sway_123 : decode cX1_sway 123 = .ok (.iconst (-1), 1) := by decide +kernel
theorem dX1_sway_124 : decode cX1_sway 124 = .ok (.if_icmp .ne 10, 3) := by decide +kernel
theorem dX1_sway_127 : decode cX1_sway 127 = .ok (.iload_n 3, 1) := by decide +kernel
theorem dX1_sway_128 : decode cX1_sway 128 = .ok (.iconst 1, 1) := by decide +kernel
theorem dX1_sway_129 : decode cX1_sway 129 = .ok (.ixor, 1) := by decide +kernel
theorem dX1_sway_130 : decode cX1_sway 130 = .ok (.istore_n 3, 1) := by decide +kernel
theorem dX1_sway_131 : decode cX1_sway 131 = .ok (.goto 34, 3) := by decide +kernel
theorem dX1_sway_134 : decode cX1_sway 134 = .ok (.iload_n 3, 1) := by decide +kernel
theorem dX1_sway_135 : decode cX1_sway 135 = .ok (.iconst 1, 1) := by decide +kernel
theorem dX1_sway_136 : decode cX1_sway 136 = .ok (.iand, 1) := by decide +kernel
theorem dX1_sway_137 : decode cX1_sway 137 = .ok (.istore 6, 2) := by decide +kernel
theorem dX1_sway_139 : decode cX1_sway 139 = .ok (.iload_n 3, 1) := by decide +kernel
theorem dX1_sway_140 : decode cX1_sway 140 = .ok (.iconst 1, 1) := by decide +kernel
theorem dX1_sway_141 : decode cX1_sway 141 = .ok (.iushr, 1) := by decide +kernel
theorem dX1_sway_142 : decode cX1_sway 142 = .ok (.istore_n 3, 1) := by decide +kernel
theorem dX1_sway_143 : decode cX1_sway 143 = .ok (.iload 5, 2) := by decide +kernel
theorem dX1_sway_145 : decode cX1_sway 145 = .ok (.bipush (-2), 2) := by decide +kernel
theorem dX1_sway_147 : decode cX1_sway 147 = .ok (.if_icmp .ne 13, 3) := by decide +kernel
theorem dX1_sway_150 : decode cX1_sway 150 = .ok (.iload_n 3, 1) := by decide +kernel
theorem dX1_sway_151 : decode cX1_sway 151 = .ok (.iload 6, 2) := by decide +kernel
theorem dX1_sway_153 : decode cX1_sway 153 = .ok (.bipush (-2), 2) := by decide +kernel
theorem dX1_sway_155 : decode cX1_sway 155 = .ok (.ior, 1) := by decide +kernel
theorem dX1_sway_156 : decode cX1_sway 156 = .ok (.iand, 1) := by decide +kernel
theorem dX1_sway_157 : decode cX1_sway 157 = .ok (.goto 7, 3) := by decide +kernel
theorem dX1_sway_160 : decode cX1_sway 160 = .ok (.iload_n 3, 1) := by decide +kernel
theorem dX1_sway_161 : decode cX1_sway 161 = .ok (.iload 6, 2) := by decide +kernel
theorem dX1_sway_163 : decode cX1_sway 163 = .ok (.ior, 1) := by decide +kernel
theorem dX1_sway_164 : decode cX1_sway 164 = .ok (.istore_n 3, 1) := by decide +kernel
theorem dX1_sway_165 : decode cX1_sway 165 = .ok (.iinc 4 1, 3) := by decide +kernel
theorem dX1_sway_168 : decode cX1_sway 168 = .ok (.goto (-161), 3) := by decide +kernel
theorem dX1_sway_171 : decode cX1_sway 171 = .ok (.iload_n 2, 1) := by decide +kernel
theorem dX1_sway_172 : decode cX1_sway 172 = .ok (.ireturn, 1) := by decide +kernel
theorem dX2_init_0 : decode cX2_init 0 = .ok (.aload_n 0, 1) := by decide +kernel
theorem dX2_init_1 : decode cX2_init 1 = .ok (.invokespecial 3, 3) := by decide +kernel
theorem dX2_init_4 : decode cX2_init 4 = .ok (.aload_n 0, 1) := by decide +kernel
theorem dX2_init_5 : decode cX2_init 5 = .ok (.bipush 12, 2) := by decide +kernel
theorem dX2_init_7 : decode cX2_init 7 = .ok (.newarray .int, 2) := by decide +kernel
theorem dX2_init_9 : decode cX2_init 9 = .ok (.putfield 9, 3) := by decide +kernel
theorem dX2_init_12 : decode cX2_init 12 = .ok (.aload_n 0, 1) := by decide +kernel
theorem dX2_init_13 : decode cX2_init 13 = .ok (.bipush 12, 2) := by decide +kernel
theorem dX2_init_15 : decode cX2_init 15 = .ok (.newarray .int, 2) := by decide +kernel
theorem dX2_init_17 : decode cX2_init 17 = .ok (.putfield 15, 3) := by decide +kernel
theorem dX2_init_20 : decode cX2_init 20 = .ok (.aload_n 0, 1) := by decide +kernel
theorem dX2_init_21 : decode cX2_init 21 = .ok (.bipush 6, 2) := by decide +kernel
theorem dX2_init_23 : decode cX2_init 23 = .ok (.anewarray 18, 3) := by decide +kernel
theorem dX2_init_26 : decode cX2_init 26 = .ok (.putfield 20, 3) := by decide +kernel
theorem dX2_init_29 : decode cX2_init 29 = .ok (.aload_n 0, 1) := by decide +kernel
theorem dX2_init_30 : decode cX2_init 30 = .ok (.new 24, 3) := by decide +kernel
theorem dX2_init_33 : decode cX2_init 33 = .ok (.dup, 1) := by decide +kernel
theorem dX2_init_34 : decode cX2_init 34 = .ok (.iconst 5, 1) := by decide +kernel
theorem dX2_init_35 : decode cX2_init 35 = .ok (.invokespecial 26, 3) := by decide +kernel
theorem dX2_init_38 : decode cX2_init 38 = .ok (.putfield 29, 3) := by decide +kernel
theorem dX2_init_41 : decode cX2_init 41 = .ok (.aload_n 0, 1) := by decide +kernel
theorem dX2_init_42 : decode cX2_init 42 = .ok (.new 24, 3) := by decide +kernel
theorem dX2_init_45 : decode cX2_init 45 = .ok (.dup, 1) := by decide +kernel
theorem dX2_init_46 : decode cX2_init 46 = .ok (.bipush 10, 2) := by decide +kernel
theorem dX2_init_48 : decode cX2_init 48 = .ok (.invokespecial 26, 3) := by decide +kernel
theorem dX2_init_51 : decode cX2_init 51 = .ok (.putfield 33, 3) := by decide +kernel
theorem dX2_init_54 : decode cX2_init 54 = .ok (.aload_n 0, 1) := by decide +kernel
theorem dX2_init_55 : decode cX2_init 55 = .ok (.new 24, 3) := by decide +kernel
theorem dX2_init_58 : decode cX2_init 58 = .ok (.dup, 1) := by decide +kernel
theorem dX2_init_59 : decode cX2_init 59 = .ok (.bipush 8, 2) := by decide +kernel
theorem dX2_init_61 : decode cX2_init 61 = .ok (.invokespecial 26, 3) := by decide +kernel
theorem dX2_init_64 : decode cX2_init 64 = .ok (.putfield 36, 3) := by decide +kernel
theorem dX2_init_67 : decode cX2_init 67 = .ok (.aload_n 0, 1) := by decide +kernel
theorem dX2_init_68 : decode cX2_init 68 = .ok (.aload_n 1, 1) := by decide +kernel
theorem dX2_init_69 : decode cX2_init 69 = .ok (.putfield 39, 3) := by decide +kernel
theorem dX2_init_72 : decode cX2_init 72 = .ok (.iconst 0, 1) := by decide +kernel
theorem dX2_init_73 : decode cX2_init 73 = .ok (.istore_n 2, 1) := by decide +kernel
theorem dX2_init_74 : decode cX2_init 74 = .ok (.iload_n 2, 1) := by decide +kernel
theorem dX2_init_75 : decode cX2_init 75 = .ok (.bipush 12, 2) := by decide +kernel
theorem dX2_init_77 : decode cX2_init 77 = .ok (.if_icmp .ge 19, 3) := by decide +kernel
theorem dX2_init_80 : decode cX2_init 80 = .ok (.aload_n 0, 1) := by decide +kernel
theorem dX2_init_81 : decode cX2_init 81 = .ok (.getfield 9, 3) := by decide +kernel
theorem dX2_init_84 : decode cX2_init 84 = .ok (.iload_n 2, 1) := by decide +kernel
theorem dX2_init_85 : decode cX2_init 85 = .ok (.iload_n 2, 1) := by decide +kernel
theorem dX2_init_86 : decode cX2_init 86 = .ok (.bipush 10, 2) := by decide +kernel
theorem dX2_init_88 : decode cX2_init 88 = .ok (.irem, 1) := by decide +kernel
theorem dX2_init_89 : decode cX2_init 89 = .ok (.iastore, 1) := by decide +kernel
theorem dX2_init_90 : decode cX2_init 90 = .ok (.iinc 2 1, 3) := by decide +kernel
theorem dX2_init_93 : decode cX2_init 93 = .ok (.goto (-19), 3) := by decide +kernel
theorem dX2_init_96 : decode cX2_init 96 = .ok (.iconst 0, 1) := by decide +kernel
theorem dX2_init_97 : decode cX2_init 97 = .ok (.istore_n 2, 1) := by decide +kernel
theorem dX2_init_98 : decode cX2_init 98 = .ok (.iload_n 2, 1) := by decide +kernel
theorem dX2_init_99 : decode cX2_init 99 = .ok (.bipush 6, 2) := by decide +kernel
theorem dX2_init_101 : decode cX2_init 101 = .ok (.if_icmp .ge 23, 3) := by decide +kernel
theorem dX2_init_104 : decode cX2_init 104 = .ok (.aload_n 0, 1) := by decide +kernel
theorem dX2_init_105 : decode cX2_init 105 = .ok (.getfield 20, 3) := by decide +kernel
theorem dX2_init_108 : decode cX2_init 108 = .ok (.iload_n 2, 1) := by decide +kernel
theorem dX2_init_109 : decode cX2_init 109 = .ok (.new 18, 3) := by decide +kernel
theorem dX2_init_112 : decode cX2_init 112 = .ok (.dup, 1) := by decide +kernel
theorem dX2_init_113 : decode cX2_init 113 = .ok (.iload_n 2, 1) := by decide +kernel
theorem dX2_init_114 : decode cX2_init 114 = .ok (.invokespecial 43, 3) := by decide +kernel
theorem dX2_init_117 : decode cX2_init 117 = .ok (.aastore, 1) := by decide +kernel
theorem dX2_init_118 : decode cX2_init 118 = .ok (.iinc 2 1, 3) := by decide +kernel
theorem dX2_init_121 : decode cX2_init 121 = .ok (.goto (-23), 3) := by decide +kernel
theorem dX2_init_124 : decode cX2_init 124 = .ok (.return_, 1) := by decide +kernel
theorem dX2_become_0 : decode cX2_become 0 = .ok (.aload_n 0, 1) := by decide +kernel
theorem dX2_become_1 : decode cX2_become 1 = .ok (.aload_n 1, 1) := by decide +kernel
theorem dX2_become_2 : decode cX2_become 2 = .ok (.invokevirtual 44, 3) := by decide +kernel
theorem dX2_become_5 : decode cX2_become 5 = .ok (.aload_n 0, 1) := by decide +kernel
theorem dX2_become_6 : decode cX2_become 6 = .ok (.getfield 29, 3) := by decide +kernel
theorem dX2_become_9 : decode cX2_become 9 = .ok (.aload_n 1, 1) := by decide +kernel
theorem dX2_become_10 : decode cX2_become 10 = .ok (.getfield 29, 3) := by decide +kernel
theorem dX2_become_13 : decode cX2_become 13 = .ok (.invokevirtual 48, 3) := by decide +kernel
theorem dX2_become_16 : decode cX2_become 16 = .ok (.aload_n 0, 1) := by decide +kernel
theorem dX2_become_17 : decode cX2_become 17 = .ok (.getfield 33, 3) := by decide +kernel
theorem dX2_become_20 : decode cX2_become 20 = .ok (.aload_n 1, 1) := by decide +kernel
theorem dX2_become_21 : decode cX2_become 21 = .ok (.getfield 33, 3) := by decide +kernel
theorem dX2_become_24 : decode cX2_become 24 = .ok (.invokevirtual 48, 3) := by decide +kernel
theorem dX2_become_27 : decode cX2_become 27 = .ok (.aload_n 0, 1) := by decide +kernel
theorem dX2_become_28 : decode cX2_become 28 = .ok (.getfield 36, 3) := by decide +kernel
theorem dX2_become_31 : decode cX2_become 31 = .ok (.aload_n 1, 1) := by decide +kernel
theorem dX2_become_32 : decode cX2_become 32 = .ok (.getfield 36, 3) := by decide +kernel
theorem dX2_become_35 : decode cX2_become 35 = .ok (.invokevirtual 48, 3) := by decide +kernel
theorem dX2_become_38 : decode cX2_become 38 = .ok (.return_, 1) := by decide +kernel
theorem dX2_goOnFrom_0 : decode cX2_goOnFrom 0 = .ok (.aload_n 1, 1) := by decide +kernel
theorem dX2_goOnFrom_1 : decode cX2_goOnFrom 1 = .ok (.getfield 9, 3) := by decide +kernel
theorem dX2_goOnFrom_4 : decode cX2_goOnFrom 4 = .ok (.iconst 0, 1) := by decide +kernel
theorem dX2_goOnFrom_5 : decode cX2_goOnFrom 5 = .ok (.aload_n 0, 1) := by decide +kernel
theorem dX2_goOnFrom_6 : decode cX2_goOnFrom 6 = .ok (.getfield 9, 3) := by decide +kernel
theorem dX2_goOnFrom_9 : decode cX2_goOnFrom 9 = .ok (.iconst 0, 1) := by decide +kernel
theorem dX2_goOnFrom_10 : decode cX2_goOnFrom 10 = .ok (.bipush 12, 2) := by decide +kernel
theorem dX2_goOnFrom_12 : decode cX2_goOnFrom 12 = .ok (.invokestatic 52, 3) := by decide +kernel
theorem dX2_goOnFrom_15 : decode cX2_goOnFrom 15 = .ok (.aload_n 1, 1) := by decide +kernel
theorem dX2_goOnFrom_16 : decode cX2_goOnFrom 16 = .ok (.getfield 15, 3) := by decide +kernel
theorem dX2_goOnFrom_19 : decode cX2_goOnFrom 19 = .ok (.iconst 0, 1) := by decide +kernel
theorem dX2_goOnFrom_20 : decode cX2_goOnFrom 20 = .ok (.aload_n 0, 1) := by decide +kernel
theorem dX2_goOnFrom_21 : decode cX2_goOnFrom 21 = .ok (.getfield 15, 3) := by decide +kernel
theorem dX2_goOnFrom_24 : decode cX2_goOnFrom 24 = .ok (.iconst 0, 1) := by decide +kernel
theorem dX2_goOnFrom_25 : decode cX2_goOnFrom 25 = .ok (.bipush 12, 2) := by decide +kernel
theorem dX2_goOnFrom_27 : decode cX2_goOnFrom 27 = .ok (.invokestatic 52, 3) := by decide +kernel
theorem dX2_goOnFrom_30 : decode cX2_goOnFrom 30 = .ok (.aload_n 0, 1) := by decide +kernel
theorem dX2_goOnFrom_31 : decode cX2_goOnFrom 31 = .ok (.aload_n 1, 1) := by decide +kernel
theorem dX2_goOnFrom_32 : decode cX2_goOnFrom 32 = .ok (.getfield 58, 3) := by decide +kernel
theorem dX2_goOnFrom_35 : decode cX2_goOnFrom 35 = .ok (.putfield 58, 3) := by decide +kernel
theorem dX2_goOnFrom_38 : decode cX2_goOnFrom 38 = .ok (.iconst 0, 1) := by decide +kernel
theorem dX2_goOnFrom_39 : decode cX2_goOnFrom 39 = .ok (.istore_n 2, 1) := by decide +kernel
theorem dX2_goOnFrom_40 : decode cX2_goOnFrom 40 = .ok (.iload_n 2, 1) := by decide +kernel
theorem dX2_goOnFrom_41 : decode cX2_goOnFrom 41 = .ok (.aload_n 0, 1) := by decide +kernel
theorem dX2_goOnFrom_42 : decode cX2_goOnFrom 42 = .ok (.getfield 58, 3) := by decide +kernel
theorem dX2_goOnFrom_45 : decode cX2_goOnFrom 45 = .ok (.if_icmp .ge 24, 3) := by decide +kernel
theorem dX2_goOnFrom_48 : decode cX2_goOnFrom 48 = .ok (.aload_n 0, 1) := by decide +kernel
theorem dX2_goOnFrom_49 : decode cX2_goOnFrom 49 = .ok (.getfield 20, 3) := by decide +kernel
theorem dX2_goOnFrom_52 : decode cX2_goOnFrom 52 = .ok (.iload_n 2, 1) := by decide +kernel
theorem dX2_goOnFrom_53 : decode cX2_goOnFrom 53 = .ok (.aaload, 1) := by decide +kernel
theorem dX2_goOnFrom_54 : decode cX2_goOnFrom 54 = .ok (.aload_n 1, 1) := by decide +kernel
theorem dX2_goOnFrom_55 : decode cX2_goOnFrom 55 = .ok (.getfield 20, 3) := by decide +kernel
theorem dX2_goOnFrom_58 : decode cX2_goOnFrom 58 = .ok (.iload_n 2, 1) := by decide +kernel
theorem dX2_goOnFrom_59 : decode cX2_goOnFrom 59 = .ok (.aaload, 1) := by decide +kernel
theorem dX2_goOnFrom_60 : decode cX2_goOnFrom 60 = .ok (.invokevirtual 62, 3) := by decide +kernel
theorem dX2_goOnFrom_63 : decode cX2_goOnFrom 63 = .ok (.iinc 2 1, 3) := by decide +kernel
theorem dX2_goOnFrom_66 : decode cX2_goOnFrom 66 = .ok (.goto (-26), 3) := by decide +kernel
theorem dX2_goOnFrom_69 : decode cX2_goOnFrom 69 = .ok (.aload_n 0, 1) := by decide +kernel
theorem dX2_goOnFrom_70 : decode cX2_goOnFrom 70 = .ok (.aload_n 1, 1) := by decide +kernel
theorem dX2_goOnFrom_71 : decode cX2_goOnFrom 71 = .ok (.getfield 65, 3) := by decide +kernel
theorem dX2_goOnFrom_74 : decode cX2_goOnFrom 74 = .ok (.putfield 65, 3) := by decide +kernel
theorem dX2_goOnFrom_77 : decode cX2_goOnFrom 77 = .ok (.aload_n 0, 1) := by decide +kernel
theorem dX2_goOnFrom_78 : decode cX2_goOnFrom 78 = .ok (.aload_n 1, 1) := by decide +kernel
theorem dX2_goOnFrom_79 : decode cX2_goOnFrom 79 = .ok (.getfield 39, 3) := by decide +kernel
theorem dX2_goOnFrom_82 : decode cX2_goOnFrom 82 = .ok (.putfield 39, 3) := by decide +kernel
theorem dX2_goOnFrom_85 : decode cX2_goOnFrom 85 = .ok (.return_, 1) := by decide +kernel
theorem dX2_take_0 : decode cX2_take 0 = .ok (.aload_n 1, 1) := by decide +kernel
theorem dX2_take_1 : decode cX2_take 1 = .ok (.dup, 1) := by decide +kernel
theorem dX2_take_2 : decode cX2_take 2 = .ok (.getfield 68, 3) := by decide +kernel
theorem dX2_take_5 : decode cX2_take 5 = .ok (.iconst 1, 1) := by decide +kernel
theorem dX2_take_6 : decode cX2_take 6 = .ok (.iload_n 2, 1) := by decide +kernel
theorem dX2_take_7 : decode cX2_take 7 = .ok (.ishl, 1) := by decide +kernel
theorem dX2_take_8 : decode cX2_take 8 = .ok (.iconst (-1), 1) := by decide +kernel
theorem dX2_take_9 : decode cX2_take 9 = .ok (.ixor, 1) := by decide +kernel
theorem dX2_take_10 : decode cX2_take 10 = .ok (.iand, 1) := by decide +kernel
theorem dX2_take_11 : decode cX2_take 11 = .ok (.putfield 68, 3) := by decide +kernel
theorem dX2_take_14 : decode cX2_take 14 = .ok (.aload_n 1, 1) := by decide +kernel
theorem dX2_take_15 : decode cX2_take 15 = .ok (.dup, 1) := by decide +kernel
theorem dX2_take_16 : decode cX2_take 16 = .ok (.getfield 71, 3) := by decide +kernel
theorem dX2_take_19 : decode cX2_take 19 = .ok (.iconst 1, 1) := by decide +kernel
theorem dX2_take_20 : decode cX2_take 20 = .ok (.iload_n 2, 1) := by decide +kernel
theorem dX2_take_21 : decode cX2_take 21 = .ok (.ishl, 1) := by decide +kernel
theorem dX2_take_22 : decode cX2_take 22 = .ok (.ior, 1) := by decide +kernel
theorem dX2_take_23 : decode cX2_take 23 = .ok (.putfield 71, 3) := by decide +kernel
theorem dX2_take_26 : decode cX2_take 26 = .ok (.aload_n 0, 1) := by decide +kernel
theorem dX2_take_27 : decode cX2_take 27 = .ok (.getfield 15, 3) := by decide +kernel
theorem dX2_take_30 : decode cX2_take 30 = .ok (.iload_n 2, 1) := by decide +kernel
theorem dX2_take_31 : decode cX2_take 31 = .ok (.aload_n 0, 1) := by decide +kernel
theorem dX2_take_32 : decode cX2_take 32 = .ok (.getfield 15, 3) := by decide +kernel
theorem dX2_take_35 : decode cX2_take 35 = .ok (.iload_n 2, 1) := by decide +kernel
theorem dX2_take_36 : decode cX2_take 36 = .ok (.iaload, 1) := by decide +kernel
theorem dX2_take_37 : decode cX2_take 37 = .ok (.iconst 1, 1) := by decide +kernel
theorem dX2_take_38 : decode cX2_take 38 = .ok (.iadd, 1) := by decide +kernel
theorem dX2_take_39 : decode cX2_take 39 = .ok (.bipush 99, 2) := by decide +kernel
theorem dX2_take_41 : decode cX2_take 41 = .ok (.invokestatic 74, 3) := by decide +kernel
theorem dX2_take_44 : decode cX2_take 44 = .ok (.iastore, 1) := by decide +kernel
theorem dX2_take_45 : decode cX2_take 45 = .ok (.return_, 1) := by decide +kernel
theorem dX2_letGo_0 : decode cX2_letGo 0 = .ok (.iconst 0, 1) := by decide +kernel
theorem dX2_letGo_1 : decode cX2_letGo 1 = .ok (.istore_n 1, 1) := by decide +kernel
theorem dX2_letGo_2 : decode cX2_letGo 2 = .ok (.iload_n 1, 1) := by decide +kernel
theorem dX2_letGo_3 : decode cX2_letGo 3 = .ok (.bipush 12, 2) := by decide +kernel
theorem dX2_letGo_5 : decode cX2_letGo 5 = .ok (.if_icmp .ge 27, 3) := by decide +kernel
theorem dX2_letGo_8 : decode cX2_letGo 8 = .ok (.aload_n 0, 1) := by decide +kernel
theorem dX2_letGo_9 : decode cX2_letGo 9 = .ok (.getfield 15, 3) := by decide +kernel
theorem dX2_letGo_12 : decode cX2_letGo 12 = .ok (.iload_n 1, 1) := by decide +kernel
theorem dX2_letGo_13 : decode cX2_letGo 13 = .ok (.aload_n 0, 1) := by decide +kernel
theorem dX2_letGo_14 : decode cX2_letGo 14 = .ok (.getfield 15, 3) := by decide +kernel
theorem dX2_letGo_17 : decode cX2_letGo 17 = .ok (.iload_n 1, 1) := by decide +kernel
theorem dX2_letGo_18 : decode cX2_letGo 18 = .ok (.iaload, 1) := by decide +kernel
theorem dX2_letGo_19 : decode cX2_letGo 19 = .ok (.iconst 1, 1) := by decide +kernel
theorem dX2_letGo_20 : decode cX2_letGo 20 = .ok (.isub, 1) := by decide +kernel
theorem dX2_letGo_21 : decode cX2_letGo 21 = .ok (.iconst 0, 1) := by decide +kernel
theorem dX2_letGo_22 : decode cX2_letGo 22 = .ok (.invokestatic 80, 3) := by decide +kernel
theorem dX2_letGo_25 : decode cX2_letGo 25 = .ok (.iastore, 1) := by decide +kernel
theorem dX2_letGo_26 : decode cX2_letGo 26 = .ok (.iinc 1 1, 3) := by decide +kernel
theorem dX2_letGo_29 : decode cX2_letGo 29 = .ok (.goto (-27), 3) := by decide +kernel
theorem dX2_letGo_32 : decode cX2_letGo 32 = .ok (.return_, 1) := by decide +kernel
theorem dX2_meantByAll_0 : decode cX2_meantByAll 0 = .ok (.iconst 0, 1) := by decide +kernel
theorem dX2_meantByAll_1 : decode cX2_meantByAll 1 = .ok (.istore_n 1, 1) := by decide +kernel
theorem dX2_meantByAll_2 : decode cX2_meantByAll 2 = .ok (.iconst 0, 1) := by decide +kernel
theorem dX2_meantByAll_3 : decode cX2_meantByAll 3 = .ok (.istore_n 2, 1) := by decide +kernel
theorem dX2_meantByAll_4 : decode cX2_meantByAll 4 = .ok (.iload_n 2, 1) := by decide +kernel
theorem dX2_meantByAll_5 : decode cX2_meantByAll 5 = .ok (.aload_n 0, 1) := by decide +kernel
theorem dX2_meantByAll_6 : decode cX2_meantByAll 6 = .ok (.getfield 58, 3) := by decide +kernel
theorem dX2_meantByAll_9 : decode cX2_meantByAll 9 = .ok (.if_icmp .ge 24, 3) := by decide +kernel
theorem dX2_meantByAll_12 : decode cX2_meantByAll 12 = .ok (.iload_n 1, 1) := by decide +kernel
theorem dX2_meantByAll_13 : decode cX2_meantByAll 13 = .ok (.aload_n 0, 1) := by decide +kernel
theorem dX2_meantByAll_14 : decode cX2_meantByAll 14 = .ok (.getfield 20, 3) := by decide +kernel
theorem dX2_meantByAll_17 : decode cX2_meantByAll 17 = .ok (.iload_n 2, 1) := by decide +kernel
theorem dX2_meantByAll_18 : decode cX2_meantByAll 18 = .ok (.aaload, 1) := by decide +kernel
theorem dX2_meantByAll_19 : decode cX2_meantByAll 19 = .ok (.getfield 68, 3) := by decide +kernel
theorem dX2_meantByAll_22 : decode cX2_meantByAll 22 = .ok (.invokestatic 83, 3) := by decide +kernel
theorem dX2_meantByAll_25 : decode cX2_meantByAll 25 = .ok (.iadd, 1) := by decide +kernel
theorem dX2_meantByAll_26 : decode cX2_meantByAll 26 = .ok (.istore_n 1, 1) := by decide +kernel
theorem dX2_meantByAll_27 : decode cX2_meantByAll 27 = .ok (.iinc 2 1, 3) := by decide +kernel
theorem dX2_meantByAll_30 : decode cX2_meantByAll 30 = .ok (.goto (-26), 3) := by decide +kernel
theorem dX2_meantByAll_33 : decode cX2_meantByAll 33 = .ok (.iload_n 1, 1) := by decide +kernel
theorem dX2_meantByAll_34 : decode cX2_meantByAll 34 = .ok (.ireturn, 1) := by decide +kernel
theorem dX2_whoIsIn_0 : decode cX2_whoIsIn 0 = .ok (.iconst 0, 1) := by decide +kernel
theorem dX2_whoIsIn_1 : decode cX2_whoIsIn 1 = .ok (.istore_n 1, 1) := by decide +kernel
theorem dX2_whoIsIn_2 : decode cX2_whoIsIn 2 = .ok (.iconst 0, 1) := by decide +kernel
theorem dX2_whoIsIn_3 : decode cX2_whoIsIn 3 = .ok (.istore_n 2, 1) := by decide +kernel
theorem dX2_whoIsIn_4 : decode cX2_whoIsIn 4 = .ok (.iload_n 2, 1) := by decide +kernel
theorem dX2_whoIsIn_5 : decode cX2_whoIsIn 5 = .ok (.aload_n 0, 1) := by decide +kernel
theorem dX2_whoIsIn_6 : decode cX2_whoIsIn 6 = .ok (.getfield 58, 3) := by decide +kernel
theorem dX2_whoIsIn_9 : decode cX2_whoIsIn 9 = .ok (.if_icmp .ge 31, 3) := by decide +kernel
theorem dX2_whoIsIn_12 : decode cX2_whoIsIn 12 = .ok (.iload_n 1, 1) := by decide +kernel
theorem dX2_whoIsIn_13 : decode cX2_whoIsIn 13 = .ok (.aload_n 0, 1) := by decide +kernel
theorem dX2_whoIsIn_14 : decode cX2_whoIsIn 14 = .ok (.getfield 20, 3) := by decide +kernel
theorem dX2_whoIsIn_17 : decode cX2_whoIsIn 17 = .ok (.iload_n 2, 1) := by decide +kernel
theorem dX2_whoIsIn_18 : decode cX2_whoIsIn 18 = .ok (.aaload, 1) := by decide +kernel
theorem dX2_whoIsIn_19 : decode cX2_whoIsIn 19 = .ok (.getfield 89, 3) := by decide +kernel
theorem dX2_whoIsIn_22 : decode cX2_whoIsIn 22 = .ok (.ifCond .eq 9, 3) := by decide +kernel
theorem dX2_whoIsIn_25 : decode cX2_whoIsIn 25 = .ok (.iconst 1, 1) := by decide +kernel
theorem dX2_whoIsIn_26 : decode cX2_whoIsIn 26 = .ok (.iload_n 2, 1) := by decide +kernel
theorem dX2_whoIsIn_27 : decode cX2_whoIsIn 27 = .ok (.ishl, 1) := by decide +kernel
theorem dX2_whoIsIn_28 : decode cX2_whoIsIn 28 = .ok (.goto 4, 3) := by decide +kernel
theorem dX2_whoIsIn_31 : decode cX2_whoIsIn 31 = .ok (.iconst 0, 1) := by decide +kernel
theorem dX2_whoIsIn_32 : decode cX2_whoIsIn 32 = .ok (.ior, 1) := by decide +kernel
theorem dX2_whoIsIn_33 : decode cX2_whoIsIn 33 = .ok (.istore_n 1, 1) := by decide +kernel
theorem dX2_whoIsIn_34 : decode cX2_whoIsIn 34 = .ok (.iinc 2 1, 3) := by decide +kernel
theorem dX2_whoIsIn_37 : decode cX2_whoIsIn 37 = .ok (.goto (-33), 3) := by decide +kernel
theorem dX2_whoIsIn_40 : decode cX2_whoIsIn 40 = .ok (.iload_n 1, 1) := by decide +kernel
theorem dX2_whoIsIn_41 : decode cX2_whoIsIn 41 = .ok (.ireturn, 1) := by decide +kernel
theorem dX2_inCellar_0 : decode cX2_inCellar 0 = .ok (.iconst 0, 1) := by decide +kernel
theorem dX2_inCellar_1 : decode cX2_inCellar 1 = .ok (.istore_n 1, 1) := by decide +kernel
theorem dX2_inCellar_2 : decode cX2_inCellar 2 = .ok (.iconst 0, 1) := by decide +kernel
theorem dX2_inCellar_3 : decode cX2_inCellar 3 = .ok (.istore_n 2, 1) := by decide +kernel
theorem dX2_inCellar_4 : decode cX2_inCellar 4 = .ok (.iload_n 2, 1) := by decide +kernel
theorem dX2_inCellar_5 : decode cX2_inCellar 5 = .ok (.bipush 12, 2) := by decide +kernel
theorem dX2_inCellar_7 : decode cX2_inCellar 7 = .ok (.if_icmp .ge 28, 3) := by decide +kernel
theorem dX2_inCellar_10 : decode cX2_inCellar 10 = .ok (.iload_n 1, 1) := by decide +kernel
theorem dX2_inCellar_11 : decode cX2_inCellar 11 = .ok (.aload_n 0, 1) := by decide +kernel
theorem dX2_inCellar_12 : decode cX2_inCellar 12 = .ok (.getfield 15, 3) := by decide +kernel
theorem dX2_inCellar_15 : decode cX2_inCellar 15 = .ok (.iload_n 2, 1) := by decide +kernel
theorem dX2_inCellar_16 : decode cX2_inCellar 16 = .ok (.iaload, 1) := by decide +kernel
theorem dX2_inCellar_17 : decode cX2_inCellar 17 = .ok (.ifCond .le 9, 3) := by decide +kernel
theorem dX2_inCellar_20 : decode cX2_inCellar 20 = .ok (.iconst 1, 1) := by decide +kernel
theorem dX2_inCellar_21 : decode cX2_inCellar 21 = .ok (.iload_n 2, 1) := by decide +kernel
theorem dX2_inCellar_22 : decode cX2_inCellar 22 = .ok (.ishl, 1) := by decide +kernel
theorem dX2_inCellar_23 : decode cX2_inCellar 23 = .ok (.goto 4, 3) := by decide +kernel
theorem dX2_inCellar_26 : decode cX2_inCellar 26 = .ok (.iconst 0, 1) := by decide +kernel
theorem dX2_inCellar_27 : decode cX2_inCellar 27 = .ok (.ior, 1) := by decide +kernel
theorem dX2_inCellar_28 : decode cX2_inCellar 28 = .ok (.istore_n 1, 1) := by decide +kernel
theorem dX2_inCellar_29 : decode cX2_inCellar 29 = .ok (.iinc 2 1, 3) := by decide +kernel
theorem dX2_inCellar_32 : decode cX2_inCellar 32 = .ok (.goto (-28), 3) := by decide +kernel
theorem dX2_inCellar_35 : decode cX2_inCellar 35 = .ok (.iload_n 1, 1) := by decide +kernel
theorem dX2_inCellar_36 : decode cX2_inCellar 36 = .ok (.ireturn, 1) := by decide +kernel
theorem dX2_storedInAll_0 : decode cX2_storedInAll 0 = .ok (.iconst 0, 1) := by decide +kernel
theorem dX2_storedInAll_1 : decode cX2_storedInAll 1 = .ok (.istore_n 1, 1) := by decide +kernel
theorem dX2_storedInAll_2 : decode cX2_storedInAll 2 = .ok (.iconst 0, 1) := by decide +kernel
theorem dX2_storedInAll_3 : decode cX2_storedInAll 3 = .ok (.istore_n 2, 1) := by decide +kernel
theorem dX2_storedInAll_4 : decode cX2_storedInAll 4 = .ok (.iload_n 2, 1) := by decide +kernel
theorem dX2_storedInAll_5 : decode cX2_storedInAll 5 = .ok (.bipush 12, 2) := by decide +kernel
theorem dX2_storedInAll_7 : decode cX2_storedInAll 7 = .ok (.if_icmp .ge 18, 3) := by decide +kernel
theorem dX2_storedInAll_10 : decode cX2_storedInAll 10 = .ok (.iload_n 1, 1) := by decide +kernel
theorem dX2_storedInAll_11 : decode cX2_storedInAll 11 = .ok (.aload_n 0, 1) := by decide +kernel
theorem dX2_storedInAll_12 : decode cX2_storedInAll 12 = .ok (.getfield 15, 3) := by decide +kernel
theorem dX2_storedInAll_15 : decode cX2_storedInAll 15 = .ok (.iload_n 2, 1) := by decide +kernel
theorem dX2_storedInAll_16 : decode cX2_storedInAll 16 = .ok (.iaload, 1) := by decide +kernel
theorem dX2_storedInAll_17 : decode cX2_storedInAll 17 = .ok (.iadd, 1) := by decide +kernel
theorem dX2_storedInAll_18 : decode cX2_storedInAll 18 = .ok (.istore_n 1, 1) := by decide +kernel
theorem dX2_storedInAll_19 : decode cX2_storedInAll 19 = .ok (.iinc 2 1, 3) := by decide +kernel
theorem dX2_storedInAll_22 : decode cX2_storedInAll 22 = .ok (.goto (-18), 3) := by decide +kernel
theorem dX2_storedInAll_25 : decode cX2_storedInAll 25 = .ok (.iload_n 1, 1) := by decide +kernel
theorem dX2_storedInAll_26 : decode cX2_storedInAll 26 = .ok (.ireturn, 1) := by decide +kernel
theorem dX3_init_0 : decode cX3_init 0 = .ok (.aload_n 0, 1) := by decide +kernel
theorem dX3_init_1 : decode cX3_init 1 = .ok (.invokespecial 3, 3) := by decide +kernel
theorem dX3_init_4 : decode cX3_init 4 = .ok (.aload_n 0, 1) := by decide +kernel
theorem dX3_init_5 : decode cX3_init 5 = .ok (.bipush 10, 2) := by decide +kernel
theorem dX3_init_7 : decode cX3_init 7 = .ok (.bipush 12, 2) := by decide +kernel
theorem dX3_init_9 : decode cX3_init 9 = .ok (.multianewarray 9 2, 4) := by decide +kernel
theorem dX3_init_13 : decode cX3_init 13 = .ok (.putfield 11, 3) := by decide +kernel
theorem dX3_init_16 : decode cX3_init 16 = .ok (.aload_n 0, 1) := by decide +kernel
theorem dX3_init_17 : decode cX3_init 17 = .ok (.bipush 10, 2) := by decide +kernel
theorem dX3_init_19 : decode cX3_init 19 = .ok (.newarray .int, 2) := by decide +kernel
theorem dX3_init_21 : decode cX3_init 21 = .ok (.putfield 16, 3) := by decide +kernel
theorem dX3_init_24 : decode cX3_init 24 = .ok (.aload_n 0, 1) := by decide +kernel
theorem dX3_init_25 : decode cX3_init 25 = .ok (.bipush 12, 2) := by decide +kernel
theorem dX3_init_27 : decode cX3_init 27 = .ok (.newarray .int, 2) := by decide +kernel
theorem dX3_init_29 : decode cX3_init 29 = .ok (.putfield 20, 3) := by decide +kernel
theorem dX3_init_32 : decode cX3_init 32 = .ok (.aload_n 0, 1) := by decide +kernel
theorem dX3_init_33 : decode cX3_init 33 = .ok (.bipush 8, 2) := by decide +kernel
theorem dX3_init_35 : decode cX3_init 35 = .ok (.newarray .int, 2) := by decide +kernel
theorem dX3_init_37 : decode cX3_init 37 = .ok (.putfield 23, 3) := by decide +kernel
theorem dX3_init_40 : decode cX3_init 40 = .ok (.aload_n 0, 1) := by decide +kernel
theorem dX3_init_41 : decode cX3_init 41 = .ok (.aload_n 1, 1) := by decide +kernel
theorem dX3_init_42 : decode cX3_init 42 = .ok (.putfield 26, 3) := by decide +kernel
theorem dX3_init_45 : decode cX3_init 45 = .ok (.aload_n 0, 1) := by decide +kernel
theorem dX3_init_46 : decode cX3_init 46 = .ok (.aload_n 2, 1) := by decide +kernel
theorem dX3_init_47 : decode cX3_init 47 = .ok (.putfield 30, 3) := by decide +kernel
theorem dX3_init_50 : decode cX3_init 50 = .ok (.aload_n 0, 1) := by decide +kernel
theorem dX3_init_51 : decode cX3_init 51 = .ok (.getfield 16, 3) := by decide +kernel
theorem dX3_init_54 : decode cX3_init 54 = .ok (.iconst (-1), 1) := by decide +kernel
theorem dX3_init_55 : decode cX3_init 55 = .ok (.invokestatic 34, 3) := by decide +kernel
theorem dX3_init_58 : decode cX3_init 58 = .ok (.return_, 1) := by decide +kernel
theorem dX3_settle_0 : decode cX3_settle 0 = .ok (.aload_n 0, 1) := by decide +kernel
theorem dX3_settle_1 : decode cX3_settle 1 = .ok (.aload_n 1, 1) := by decide +kernel
theorem dX3_settle_2 : decode cX3_settle 2 = .ok (.putfield 26, 3) := by decide +kernel
theorem dX3_settle_5 : decode cX3_settle 5 = .ok (.aload_n 0, 1) := by decide +kernel
theorem dX3_settle_6 : decode cX3_settle 6 = .ok (.aload_n 2, 1) := by decide +kernel
theorem dX3_settle_7 : decode cX3_settle 7 = .ok (.putfield 30, 3) := by decide +kernel
theorem dX3_settle_10 : decode cX3_settle 10 = .ok (.aload_n 0, 1) := by decide +kernel
theorem dX3_settle_11 : decode cX3_settle 11 = .ok (.getfield 16, 3) := by decide +kernel
theorem dX3_settle_14 : decode cX3_settle 14 = .ok (.iconst (-1), 1) := by decide +kernel
theorem dX3_settle_15 : decode cX3_settle 15 = .ok (.invokestatic 34, 3) := by decide +kernel
theorem dX3_settle_18 : decode cX3_settle 18 = .ok (.return_, 1) := by decide +kernel
theorem dX3_tempts_0 : decode cX3_tempts 0 = .ok (.aload_n 0, 1) := by decide +kernel
theorem dX3_tempts_1 : decode cX3_tempts 1 = .ok (.getfield 26, 3) := by decide +kernel
theorem dX3_tempts_4 : decode cX3_tempts 4 = .ok (.getfield 40, 3) := by decide +kernel
theorem dX3_tempts_7 : decode cX3_tempts 7 = .ok (.iload_n 1, 1) := by decide +kernel
theorem dX3_tempts_8 : decode cX3_tempts 8 = .ok (.iaload, 1) := by decide +kernel
theorem dX3_tempts_9 : decode cX3_tempts 9 = .ok (.istore_n 3, 1) := by decide +kernel
theorem dX3_tempts_10 : decode cX3_tempts 10 = .ok (.aload_n 0, 1) := by decide +kernel
theorem dX3_tempts_11 : decode cX3_tempts 11 = .ok (.iload_n 1, 1) := by decide +kernel
theorem dX3_tempts_12 : decode cX3_tempts 12 = .ok (.iload_n 3, 1) := by decide +kernel
theorem dX3_tempts_13 : decode cX3_tempts 13 = .ok (.iload_n 2, 1) := by decide +kernel
theorem dX3_tempts_14 : decode cX3_tempts 14 = .ok (.invokevirtual 45, 3) := by decide +kernel
theorem dX3_tempts_17 : decode cX3_tempts 17 = .ok (.iconst 5, 1) := by decide +kernel
theorem dX3_tempts_18 : decode cX3_tempts 18 = .ok (.iconst 2, 1) := by decide +kernel
theorem dX3_tempts_19 : decode cX3_tempts 19 = .ok (.iload_n 3, 1) := by decide +kernel
theorem dX3_tempts_20 : decode cX3_tempts 20 = .ok (.imul, 1) := by decide +kernel
theorem dX3_tempts_21 : decode cX3_tempts 21 = .ok (.iadd, 1) := by decide +kernel
theorem dX3_tempts_22 : decode cX3_tempts 22 = .ok (.aload_n 0, 1) := by decide +kernel
theorem dX3_tempts_23 : decode cX3_tempts 23 = .ok (.getfield 26, 3) := by decide +kernel
theorem dX3_tempts_26 : decode cX3_tempts 26 = .ok (.getfield 49, 3) := by decide +kernel
theorem dX3_tempts_29 : decode cX3_tempts 29 = .ok (.aload_n 0, 1) := by decide +kernel
theorem dX3_tempts_30 : decode cX3_tempts 30 = .ok (.getfield 23, 3) := by decide +kernel
theorem dX3_tempts_33 : decode cX3_tempts 33 = .ok (.invokevirtual 53, 3) := by decide +kernel
theorem dX3_tempts_36 : decode cX3_tempts 36 = .ok (.iadd, 1) := by decide +kernel
theorem dX3_tempts_37 : decode cX3_tempts 37 = .ok (.istore 4, 2) := by decide +kernel
theorem dX3_tempts_39 : decode cX3_tempts 39 = .ok (.iload_n 1, 1) := by decide +kernel
theorem dX3_tempts_40 : decode cX3_tempts 40 = .ok (.iconst 2, 1) := by decide +kernel
theorem dX3_tempts_41 : decode cX3_tempts 41 = .ok (.irem, 1) := by decide +kernel
theorem dX3_tempts_42 : decode cX3_tempts 42 = .ok (.ifCond .ne 16, 3) := by decide +kernel
theorem dX3_tempts_45 : decode cX3_tempts 45 = .ok (.iload 4, 2) := by decide +kernel
theorem dX3_tempts_47 : decode cX3_tempts 47 = .ok (.aload_n 0, 1) := by decide +kernel
theorem dX3_tempts_48 : decode cX3_tempts 48 = .ok (.getfield 30, 3) := by decide +kernel
theorem dX3_tempts_51 : decode cX3_tempts 51 = .ok (.getfield 59, 3) := by decide +kernel
theorem dX3_tempts_54 : decode cX3_tempts 54 = .ok (.iadd, 1) := by decide +kernel
theorem dX3_tempts_55 : decode cX3_tempts 55 = .ok (.goto 5, 3) := by decide +kernel
theorem dX3_tempts_58 : decode cX3_tempts 58 = .ok (.iload 4, 2) := by decide +kernel
theorem dX3_tempts_60 : decode cX3_tempts 60 = .ok (.istore 5, 2) := by decide +kernel
theorem dX3_tempts_62 : decode cX3_tempts 62 = .ok (.aload_n 0, 1) := by decide +kernel
theorem dX3_tempts_63 : decode cX3_tempts 63 = .ok (.getfield 30, 3) := by decide +kernel
theorem dX3_tempts_66 : decode cX3_tempts 66 = .ok (.getfield 59, 3) := by decide +kernel
theorem dX3_tempts_69 : decode cX3_tempts 69 = .ok (.iload_n 3, 1) := by decide +kernel
theorem dX3_tempts_70 : decode cX3_tempts 70 = .ok (.if_icmp .le 7, 3) := by decide +kernel
theorem dX3_tempts_73 : decode cX3_tempts 73 = .ok (.iconst 0, 1) := by decide +kernel
theorem dX3_tempts_74 : decode cX3_tempts 74 = .ok (.goto 5, 3) := by decide +kernel
theorem dX3_tempts_77 : decode cX3_tempts 77 = .ok (.iload 4, 2) := by decide +kernel
theorem dX3_tempts_79 : decode cX3_tempts 79 = .ok (.istore 6, 2) := by decide +kernel
theorem dX3_tempts_81 : decode cX3_tempts 81 = .ok (.aload_n 0, 1) := by decide +kernel
theorem dX3_tempts_82 : decode cX3_tempts 82 = .ok (.getfield 30, 3) := by decide +kernel
theorem dX3_tempts_85 : decode cX3_tempts 85 = .ok (.getfield 65, 3) := by decide +kernel
theorem dX3_tempts_88 : decode cX3_tempts 88 = .ok (.tableswitch 100 1 6 #[40, 43, 48, 51, 76, 85], 40) := by decide +kernel
theorem dX3_tempts_128 : decode cX3_tempts 128 = .ok (.iload 5, 2) := by decide +kernel
theorem dX3_tempts_130 : decode cX3_tempts 130 = .ok (.ireturn, 1) := by decide +kernel
theorem dX3_tempts_131 : decode cX3_tempts 131 = .ok (.iload 4, 2) := by decide +kernel
theorem dX3_tempts_133 : decode cX3_tempts 133 = .ok (.iconst 2, 1) := by decide +kernel
theorem dX3_tempts_134 : decode cX3_tempts 134 = .ok (.idiv, 1) := by decide +kernel
theorem dX3_tempts_135 : decode cX3_tempts 135 = .ok (.ireturn, 1) := by decide +kernel
theorem dX3_tempts_136 : decode cX3_tempts 136 = .ok (.iload 6, 2) := by decide +kernel
theorem dX3_tempts_138 : decode cX3_tempts 138 = .ok (.ireturn, 1) := by decide +kernel
theorem dX3_tempts_139 : decode cX3_tempts 139 = .ok (.aload_n 0, 1) := by decide +kernel
theorem dX3_tempts_140 : decode cX3_tempts 140 = .ok (.getfield 30, 3) := by decide +kernel
theorem dX3_tempts_143 : decode cX3_tempts 143 = .ok (.getfield 68, 3) := by decide +kernel
theorem dX3_tempts_146 : decode cX3_tempts 146 = .ok (.iload_n 1, 1) := by decide +kernel
theorem dX3_tempts_147 : decode cX3_tempts 147 = .ok (.invokestatic 71, 3) := by decide +kernel
theorem dX3_tempts_150 : decode cX3_tempts 150 = .ok (.ifCond .eq 11, 3) := by decide +kernel
theorem dX3_tempts_153 : decode cX3_tempts 153 = .ok (.iload 5, 2) := by decide +kernel
theorem dX3_tempts_155 : decode cX3_tempts 155 = .ok (.bipush 10, 2) := by decide +kernel
theorem dX3_tempts_157 : decode cX3_tempts 157 = .ok (.isub, 1) := by decide +kernel
theorem dX3_tempts_158 : decode cX3_tempts 158 = .ok (.goto 5, 3) := by decide +kernel
theorem dX3_tempts_161 : decode cX3_tempts 161 = .ok (.iload 5, 2) := by decide +kernel
theorem dX3_tempts_163 : decode cX3_tempts 163 = .ok (.ireturn, 1) := by decide +kernel
theorem dX3_tempts_164 : decode cX3_tempts 164 = .ok (.iload 4, 2) := by decide +kernel
theorem dX3_tempts_166 : decode cX3_tempts 166 = .ok (.iconst 2, 1) := by decide +kernel
theorem dX3_tempts_167 : decode cX3_tempts 167 = .ok (.idiv, 1) := by decide +kernel
theorem dX3_tempts_168 : decode cX3_tempts 168 = .ok (.iload_n 2, 1) := by decide +kernel
theorem dX3_tempts_169 : decode cX3_tempts 169 = .ok (.iconst 5, 1) := by decide +kernel
theorem dX3_tempts_170 : decode cX3_tempts 170 = .ok (.irem, 1) := by decide +kernel
theorem dX3_tempts_171 : decode cX3_tempts 171 = .ok (.iadd, 1) := by decide +kernel
theorem dX3_tempts_172 : decode cX3_tempts 172 = .ok (.ireturn, 1) := by decide +kernel
theorem dX3_tempts_173 : decode cX3_tempts 173 = .ok (.iload 6, 2) := by decide +kernel
theorem dX3_tempts_175 : decode cX3_tempts 175 = .ok (.aload_n 0, 1) := by decide +kernel
theorem dX3_tempts_176 : decode cX3_tempts 176 = .ok (.getfield 30, 3) := by decide +kernel
theorem dX3_tempts_179 : decode cX3_tempts 179 = .ok (.getfield 75, 3) := by decide +kernel
theorem dX3_tempts_182 : decode cX3_tempts 182 = .ok (.iload_n 1, 1) := by decide +kernel
theorem dX3_tempts_183 : decode cX3_tempts 183 = .ok (.iconst 4, 1) := by decide +kernel
theorem dX3_tempts_184 : decode cX3_tempts 184 = .ok (.irem, 1) := by decide +kernel
theorem dX3_tempts_185 : decode cX3_tempts 185 = .ok (.iaload, 1) := by decide +kernel
theorem dX3_tempts_186 : decode cX3_tempts 186 = .ok (.iadd, 1) := by decide +kernel
theorem dX3_tempts_187 : decode cX3_tempts 187 = .ok (.ireturn, 1) := by decide +kernel
theorem dX3_tempts_188 : decode cX3_tempts 188 = .ok (.iload 4, 2) := by decide +kernel
theorem dX3_tempts_190 : decode cX3_tempts 190 = .ok (.ireturn, 1) := by decide +kernel
theorem dX3_learn_0 : decode cX3_learn 0 = .ok (.aload_n 0, 1) := by decide +kernel
theorem dX3_learn_1 : decode cX3_learn 1 = .ok (.getfield 23, 3) := by decide +kernel
theorem dX3_learn_4 : decode cX3_learn 4 = .ok (.iconst 0, 1) := by decide +kernel
theorem dX3_learn_5 : decode cX3_learn 5 = .ok (.aload_n 0, 1) := by decide +kernel
theorem dX3_learn_6 : decode cX3_learn 6 = .ok (.getfield 30, 3) := by decide +kernel
theorem dX3_learn_9 : decode cX3_learn 9 = .ok (.getfield 78, 3) := by decide +kernel
theorem dX3_learn_12 : decode cX3_learn 12 = .ok (.iastore, 1) := by decide +kernel
theorem dX3_learn_13 : decode cX3_learn 13 = .ok (.aload_n 0, 1) := by decide +kernel
theorem dX3_learn_14 : decode cX3_learn 14 = .ok (.getfield 23, 3) := by decide +kernel
theorem dX3_learn_17 : decode cX3_learn 17 = .ok (.iconst 1, 1) := by decide +kernel
theorem dX3_learn_18 : decode cX3_learn 18 = .ok (.aload_n 0, 1) := by decide +kernel
theorem dX3_learn_19 : decode cX3_learn 19 = .ok (.getfield 30, 3) := by decide +kernel
theorem dX3_learn_22 : decode cX3_learn 22 = .ok (.getfield 65, 3) := by decide +kernel
theorem dX3_learn_25 : decode cX3_learn 25 = .ok (.iastore, 1) := by decide +kernel
theorem dX3_learn_26 : decode cX3_learn 26 = .ok (.aload_n 0, 1) := by decide +kernel
theorem dX3_learn_27 : decode cX3_learn 27 = .ok (.getfield 23, 3) := by decide +kernel
theorem dX3_learn_30 : decode cX3_learn 30 = .ok (.iconst 2, 1) := by decide +kernel
theorem dX3_learn_31 : decode cX3_learn 31 = .ok (.aload_n 0, 1) := by decide +kernel
theorem dX3_learn_32 : decode cX3_learn 32 = .ok (.getfield 30, 3) := by decide +kernel
theorem dX3_learn_35 : decode cX3_learn 35 = .ok (.getfield 59, 3) := by decide +kernel
theorem dX3_learn_38 : decode cX3_learn 38 = .ok (.iastore, 1) := by decide +kernel
theorem dX3_learn_39 : decode cX3_learn 39 = .ok (.aload_n 0, 1) := by decide +kernel
theorem dX3_learn_40 : decode cX3_learn 40 = .ok (.getfield 23, 3) := by decide +kernel
theorem dX3_learn_43 : decode cX3_learn 43 = .ok (.iconst 3, 1) := by decide +kernel
theorem dX3_learn_44 : decode cX3_learn 44 = .ok (.iload_n 1, 1) := by decide +kernel
theorem dX3_learn_45 : decode cX3_learn 45 = .ok (.iastore, 1) := by decide +kernel
theorem dX3_learn_46 : decode cX3_learn 46 = .ok (.aload_n 0, 1) := by decide +kernel
theorem dX3_learn_47 : decode cX3_learn 47 = .ok (.getfield 23, 3) := by decide +kernel
theorem dX3_learn_50 : decode cX3_learn 50 = .ok (.iconst 4, 1) := by decide +kernel
theorem dX3_learn_51 : decode cX3_learn 51 = .ok (.iload_n 2, 1) := by decide +kernel
theorem dX3_learn_52 : decode cX3_learn 52 = .ok (.iastore, 1) := by decide +kernel
theorem dX3_learn_53 : decode cX3_learn 53 = .ok (.aload_n 0, 1) := by decide +kernel
theorem dX3_learn_54 : decode cX3_learn 54 = .ok (.getfield 23, 3) := by decide +kernel
theorem dX3_learn_57 : decode cX3_learn 57 = .ok (.iconst 5, 1) := by decide +kernel
theorem dX3_learn_58 : decode cX3_learn 58 = .ok (.iload_n 3, 1) := by decide +kernel
theorem dX3_learn_59 : decode cX3_learn 59 = .ok (.bipush 10, 2) := by decide +kernel
theorem dX3_learn_61 : decode cX3_learn 61 = .ok (.irem, 1) := by decide +kernel
theorem dX3_learn_62 : decode cX3_learn 62 = .ok (.iastore, 1) := by decide +kernel
theorem dX3_learn_63 : decode cX3_learn 63 = .ok (.return_, 1) := by decide +kernel
theorem dX3_prey_0 : decode cX3_prey 0 = .ok (.iload_n 2, 1) := by decide +kernel
theorem dX3_prey_1 : decode cX3_prey 1 = .ok (.bipush 10, 2) := by decide +kernel
theorem dX3_prey_3 : decode cX3_prey 3 = .ok (.irem, 1) := by decide +kernel
theorem dX3_prey_4 : decode cX3_prey 4 = .ok (.istore_n 3, 1) := by decide +kernel
theorem dX3_prey_5 : decode cX3_prey 5 = .ok (.aload_n 0, 1) := by decide +kernel
theorem dX3_prey_6 : decode cX3_prey 6 = .ok (.getfield 30, 3) := by decide +kernel
theorem dX3_prey_9 : decode cX3_prey 9 = .ok (.getfield 81, 3) := by decide +kernel
theorem dX3_prey_12 : decode cX3_prey 12 = .ok (.ifCond .eq 7, 3) := by decide +kernel
theorem dX3_prey_15 : decode cX3_prey 15 = .ok (.iload_n 3, 1) := by decide +kernel
theorem dX3_prey_16 : decode cX3_prey 16 = .ok (.ifCond .ge 6, 3) := by decide +kernel
theorem dX3_prey_19 : decode cX3_prey 19 = .ok (.bipush (-5), 2) := by decide +kernel
theorem dX3_prey_21 : decode cX3_prey 21 = .ok (.ireturn, 1) := by decide +kernel
theorem dX3_prey_22 : decode cX3_prey 22 = .ok (.aload_n 0, 1) := by decide +kernel
theorem dX3_prey_23 : decode cX3_prey 23 = .ok (.getfield 16, 3) := by decide +kernel
theorem dX3_prey_26 : decode cX3_prey 26 = .ok (.iload_n 3, 1) := by decide +kernel
theorem dX3_prey_27 : decode cX3_prey 27 = .ok (.iaload, 1) := by decide +kernel
theorem dX3_prey_28 : decode cX3_prey 28 = .ok (.ifCond .ge 8, 3) := by decide +kernel
theorem dX3_prey_31 : decode cX3_prey 31 = .ok (.aload_n 0, 1) := by decide +kernel
theorem dX3_prey_32 : decode cX3_prey 32 = .ok (.iload_n 3, 1) := by decide +kernel
theorem dX3_prey_33 : decode cX3_prey 33 = .ok (.invokevirtual 85, 3) := by decide +kernel
theorem dX3_prey_36 : decode cX3_prey 36 = .ok (.iconst 0, 1) := by decide +kernel
theorem dX3_prey_37 : decode cX3_prey 37 = .ok (.istore 4, 2) := by decide +kernel
theorem dX3_prey_39 : decode cX3_prey 39 = .ok (.iload 4, 2) := by decide +kernel
theorem dX3_prey_41 : decode cX3_prey 41 = .ok (.aload_n 0, 1) := by decide +kernel
theorem dX3_prey_42 : decode cX3_prey 42 = .ok (.getfield 16, 3) := by decide +kernel
theorem dX3_prey_45 : decode cX3_prey 45 = .ok (.iload_n 3, 1) := by decide +kernel
theorem dX3_prey_46 : decode cX3_prey 46 = .ok (.iaload, 1) := by decide +kernel
theorem dX3_prey_47 : decode cX3_prey 47 = .ok (.if_icmp .ge 35, 3) := by decide +kernel
theorem dX3_prey_50 : decode cX3_prey 50 = .ok (.iload_n 1, 1) := by decide +kernel
theorem dX3_prey_51 : decode cX3_prey 51 = .ok (.aload_n 0, 1) := by decide +kernel
theorem dX3_prey_52 : decode cX3_prey 52 = .ok (.getfield 11, 3) := by decide +kernel
theorem dX3_prey_55 : decode cX3_prey 55 = .ok (.iload_n 3, 1) := by decide +kernel
theorem dX3_prey_56 : decode cX3_prey 56 = .ok (.aaload, 1) := by decide +kernel
theorem dX3_prey_57 : decode cX3_prey 57 = .ok (.iload 4, 2) := by decide +kernel
theorem dX3_prey_59 : decode cX3_prey 59 = .ok (.iaload, 1) := by decide +kernel
theorem dX3_prey_60 : decode cX3_prey 60 = .ok (.invokestatic 71, 3) := by decide +kernel
theorem dX3_prey_63 : decode cX3_prey 63 = .ok (.ifCond .eq 13, 3) := by decide +kernel
theorem dX3_prey_66 : decode cX3_prey 66 = .ok (.aload_n 0, 1) := by decide +kernel
theorem dX3_prey_67 : decode cX3_prey 67 = .ok (.getfield 11, 3) := by decide +kernel
theorem dX3_prey_70 : decode cX3_prey 70 = .ok (.iload_n 3, 1) := by decide +kernel
theorem dX3_prey_71 : decode cX3_prey 71 = .ok (.aaload, 1) := by decide +kernel
theorem dX3_prey_72 : decode cX3_prey 72 = .ok (.iload 4, 2) := by decide +kernel
theorem dX3_prey_74 : decode cX3_prey 74 = .ok (.iaload, 1) := by decide +kernel
theorem dX3_prey_75 : decode cX3_prey 75 = .ok (.ireturn, 1) := by decide +kernel
theorem dX3_prey_76 : decode cX3_prey 76 = .ok (.iinc 4 1, 3) := by decide +kernel
theorem dX3_prey_79 : decode cX3_prey 79 = .ok (.goto (-40), 3) := by decide +kernel
theorem dX3_prey_82 : decode cX3_prey 82 = .ok (.bipush (-5), 2) := by decide +kernel
theorem dX3_prey_84 : decode cX3_prey 84 = .ok (.ireturn, 1) := by decide +kernel
theorem dX3_rank_0 : decode cX3_rank 0 = .ok (.aload_n 0, 1) := by decide +kernel
theorem dX3_rank_1 : decode cX3_rank 1 = .ok (.getfield 11, 3) := by decide +kernel
theorem dX3_rank_4 : decode cX3_rank 4 = .ok (.iload_n 1, 1) := by decide +kernel
theorem dX3_rank_5 : decode cX3_rank 5 = .ok (.aaload, 1) := by decide +kernel
theorem dX3_rank_6 : decode cX3_rank 6 = .ok (.astore_n 2, 1) := by decide +kernel
theorem dX3_rank_7 : decode cX3_rank 7 = .ok (.iconst 0, 1) := by decide +kernel
theorem dX3_rank_8 : decode cX3_rank 8 = .ok (.istore_n 3, 1) := by decide +kernel
theorem dX3_rank_9 : decode cX3_rank 9 = .ok (.iconst 0, 1) := by decide +kernel
theorem dX3_rank_10 : decode cX3_rank 10 = .ok (.istore 4, 2) := by decide +kernel
theorem dX3_rank_12 : decode cX3_rank 12 = .ok (.iload 4, 2) := by decide +kernel
theorem dX3_rank_14 : decode cX3_rank 14 = .ok (.bipush 12, 2) := by decide +kernel
theorem dX3_rank_16 : decode cX3_rank 16 = .ok (.if_icmp .ge 95, 3) := by decide +kernel
theorem dX3_rank_19 : decode cX3_rank 19 = .ok (.aload_n 0, 1) := by decide +kernel
theorem dX3_rank_20 : decode cX3_rank 20 = .ok (.iload 4, 2) := by decide +kernel
theorem dX3_rank_22 : decode cX3_rank 22 = .ok (.iload_n 1, 1) := by decide +kernel
theorem dX3_rank_23 : decode cX3_rank 23 = .ok (.invokevirtual 89, 3) := by decide +kernel
theorem dX3_rank_26 : decode cX3_rank 26 = .ok (.istore 5, 2) := by decide +kernel
theorem dX3_rank_28 : decode cX3_rank 28 = .ok (.iload 5, 2) := by decide +kernel
theorem dX3_rank_30 : decode cX3_rank 30 = .ok (.ifCond .le 75, 3) := by decide +kernel
theorem dX3_rank_33 : decode cX3_rank 33 = .ok (.iload_n 3, 1) := by decide +kernel
theorem dX3_rank_34 : decode cX3_rank 34 = .ok (.istore 6, 2) := by decide +kernel
theorem dX3_rank_36 : decode cX3_rank 36 = .ok (.iload 6, 2) := by decide +kernel
theorem dX3_rank_38 : decode cX3_rank 38 = .ok (.ifCond .le 49, 3) := by decide +kernel
theorem dX3_rank_41 : decode cX3_rank 41 = .ok (.aload_n 0, 1) := by decide +kernel
theorem dX3_rank_42 : decode cX3_rank 42 = .ok (.getfield 20, 3) := by decide +kernel
theorem dX3_rank_45 : decode cX3_rank 45 = .ok (.iload 6, 2) := by decide +kernel
theorem dX3_rank_47 : decode cX3_rank 47 = .ok (.iconst 1, 1) := by decide +kernel
theorem dX3_rank_48 : decode cX3_rank 48 = .ok (.isub, 1) := by decide +kernel
theorem dX3_rank_49 : decode cX3_rank 49 = .ok (.iaload, 1) := by decide +kernel
theorem dX3_rank_50 : decode cX3_rank 50 = .ok (.iload 5, 2) := by decide +kernel
theorem dX3_rank_52 : decode cX3_rank 52 = .ok (.if_icmp .ge 35, 3) := by decide +kernel
theorem dX3_rank_55 : decode cX3_rank 55 = .ok (.aload_n 0, 1) := by decide +kernel
theorem dX3_rank_56 : decode cX3_rank 56 = .ok (.getfield 20, 3) := by decide +kernel
theorem dX3_rank_59 : decode cX3_rank 59 = .ok (.iload 6, 2) := by decide +kernel
theorem dX3_rank_61 : decode cX3_rank 61 = .ok (.aload_n 0, 1) := by decide +kernel
theorem dX3_rank_62 : decode cX3_rank 62 = .ok (.getfield 20, 3) := by decide +kernel
theorem dX3_rank_65 : decode cX3_rank 65 = .ok (.iload 6, 2) := by decide +kernel
theorem dX3_rank_67 : decode cX3_rank 67 = .ok (.iconst 1, 1) := by decide +kernel
theorem dX3_rank_68 : decode cX3_rank 68 = .ok (.isub, 1) := by decide +kernel
theorem dX3_rank_69 : decode cX3_rank 69 = .ok (.iaload, 1) := by decide +kernel
theorem dX3_rank_70 : decode cX3_rank 70 = .ok (.iastore, 1) := by decide +kernel
theorem dX3_rank_71 : decode cX3_rank 71 = .ok (.aload_n 2, 1) := by decide +kernel
theorem dX3_rank_72 : decode cX3_rank 72 = .ok (.iload 6, 2) := by decide +kernel
theorem dX3_rank_74 : decode cX3_rank 74 = .ok (.aload_n 2, 1) := by decide +kernel
theorem dX3_rank_75 : decode cX3_rank 75 = .ok (.iload 6, 2) := by decide +kernel
theorem dX3_rank_77 : decode cX3_rank 77 = .ok (.iconst 1, 1) := by decide +kernel
theorem dX3_rank_78 : decode cX3_rank 78 = .ok (.isub, 1) := by decide +kernel
theorem dX3_rank_79 : decode cX3_rank 79 = .ok (.iaload, 1) := by decide +kernel
theorem dX3_rank_80 : decode cX3_rank 80 = .ok (.iastore, 1) := by decide +kernel
theorem dX3_rank_81 : decode cX3_rank 81 = .ok (.iinc 6 (-1), 3) := by decide +kernel
theorem dX3_rank_84 : decode cX3_rank 84 = .ok (.goto (-48), 3) := by decide +kernel
theorem dX3_rank_87 : decode cX3_rank 87 = .ok (.aload_n 0, 1) := by decide +kernel
theorem dX3_rank_88 : decode cX3_rank 88 = .ok (.getfield 20, 3) := by decide +kernel
theorem dX3_rank_91 : decode cX3_rank 91 = .ok (.iload 6, 2) := by decide +kernel
theorem dX3_rank_93 : decode cX3_rank 93 = .ok (.iload 5, 2) := by decide +kernel
theorem dX3_rank_95 : decode cX3_rank 95 = .ok (.iastore, 1) := by decide +kernel
theorem dX3_rank_96 : decode cX3_rank 96 = .ok (.aload_n 2, 1) := by decide +kernel
theorem dX3_rank_97 : decode cX3_rank 97 = .ok (.iload 6, 2) := by decide +kernel
theorem dX3_rank_99 : decode cX3_rank 99 = .ok (.iload 4, 2) := by decide +kernel
theorem dX3_rank_101 : decode cX3_rank 101 = .ok (.iastore, 1) := by decide +kernel
theorem dX3_rank_102 : decode cX3_rank 102 = .ok (.iinc 3 1, 3) := by decide +kernel
theorem dX3_rank_105 : decode cX3_rank 105 = .ok (.iinc 4 1, 3) := by decide +kernel
theorem dX3_rank_108 : decode cX3_rank 108 = .ok (.goto (-96), 3) := by decide +kernel
theorem dX3_rank_111 : decode cX3_rank 111 = .ok (.aload_n 0, 1) := by decide +kernel
theorem dX3_rank_112 : decode cX3_rank 112 = .ok (.getfield 16, 3) := by decide +kernel
theorem dX3_rank_115 : decode cX3_rank 115 = .ok (.iload_n 1, 1) := by decide +kernel
theorem dX3_rank_116 : decode cX3_rank 116 = .ok (.iload_n 3, 1) := by decide +kernel
theorem dX3_rank_117 : decode cX3_rank 117 = .ok (.iastore, 1) := by decide +kernel
theorem dX3_rank_118 : decode cX3_rank 118 = .ok (.return_, 1) := by decide +kernel
theorem dX4_init_0 : decode cX4_init 0 = .ok (.aload_n 0, 1) := by decide +kernel
theorem dX4_init_1 : decode cX4_init 1 = .ok (.invokespecial 3, 3) := by decide +kernel
theorem dX4_init_4 : decode cX4_init 4 = .ok (.aload_n 0, 1) := by decide +kernel
theorem dX4_init_5 : decode cX4_init 5 = .ok (.bipush 100, 2) := by decide +kernel
theorem dX4_init_7 : decode cX4_init 7 = .ok (.newarray .int, 2) := by decide +kernel
theorem dX4_init_9 : decode cX4_init 9 = .ok (.putfield 9, 3) := by decide +kernel
theorem dX4_init_12 : decode cX4_init 12 = .ok (.return_, 1) := by decide +kernel
theorem dX4_takesIn_0 : decode cX4_takesIn 0 = .ok (.aload_n 0, 1) := by decide +kernel
theorem dX4_takesIn_1 : decode cX4_takesIn 1 = .ok (.getfield 15, 3) := by decide +kernel
theorem dX4_takesIn_4 : decode cX4_takesIn 4 = .ok (.bipush 100, 2) := by decide +kernel
theorem dX4_takesIn_6 : decode cX4_takesIn 6 = .ok (.if_icmp .lt 5, 3) := by decide +kernel
theorem dX4_takesIn_9 : decode cX4_takesIn 9 = .ok (.iconst 0, 1) := by decide +kernel
theorem dX4_takesIn_10 : decode cX4_takesIn 10 = .ok (.ireturn, 1) := by decide +kernel
theorem dX4_takesIn_11 : decode cX4_takesIn 11 = .ok (.aload_n 0, 1) := by decide +kernel
theorem dX4_takesIn_12 : decode cX4_takesIn 12 = .ok (.getfield 9, 3) := by decide +kernel
theorem dX4_takesIn_15 : decode cX4_takesIn 15 = .ok (.aload_n 0, 1) := by decide +kernel
theorem dX4_takesIn_16 : decode cX4_takesIn 16 = .ok (.getfield 15, 3) := by decide +kernel
theorem dX4_takesIn_19 : decode cX4_takesIn 19 = .ok (.iload_n 1, 1) := by decide +kernel
theorem dX4_takesIn_20 : decode cX4_takesIn 20 = .ok (.iastore, 1) := by decide +kernel
theorem dX4_takesIn_21 : decode cX4_takesIn 21 = .ok (.aload_n 0, 1) := by decide +kernel
theorem dX4_takesIn_22 : decode cX4_takesIn 22 = .ok (.dup, 1) := by decide +kernel
theorem dX4_takesIn_23 : decode cX4_takesIn 23 = .ok (.getfield 15, 3) := by decide +kernel
theorem dX4_takesIn_26 : decode cX4_takesIn 26 = .ok (.iconst 1, 1) := by decide +kernel
theorem dX4_takesIn_27 : decode cX4_takesIn 27 = .ok (.iadd, 1) := by decide +kernel
theorem dX4_takesIn_28 : decode cX4_takesIn 28 = .ok (.putfield 15, 3) := by decide +kernel
theorem dX4_takesIn_31 : decode cX4_takesIn 31 = .ok (.iconst 1, 1) := by decide +kernel
theorem dX4_takesIn_32 : decode cX4_takesIn 32 = .ok (.ireturn, 1) := by decide +kernel
theorem dX4_builds_0 : decode cX4_builds 0 = .ok (.aload_n 1, 1) := by decide +kernel
theorem dX4_builds_1 : decode cX4_builds 1 = .ok (.invokevirtual 19, 3) := by decide +kernel
theorem dX4_builds_4 : decode cX4_builds 4 = .ok (.aload_n 0, 1) := by decide +kernel
theorem dX4_builds_5 : decode cX4_builds 5 = .ok (.iconst 0, 1) := by decide +kernel
theorem dX4_builds_6 : decode cX4_builds 6 = .ok (.putfield 24, 3) := by decide +kernel
theorem dX4_builds_9 : decode cX4_builds 9 = .ok (.iconst 1, 1) := by decide +kernel
theorem dX4_builds_10 : decode cX4_builds 10 = .ok (.istore_n 2, 1) := by decide +kernel
theorem dX4_builds_11 : decode cX4_builds 11 = .ok (.iload_n 2, 1) := by decide +kernel
theorem dX4_builds_12 : decode cX4_builds 12 = .ok (.bipush 10, 2) := by decide +kernel
theorem dX4_builds_14 : decode cX4_builds 14 = .ok (.if_icmp .gt 49, 3) := by decide +kernel
theorem dX4_builds_17 : decode cX4_builds 17 = .ok (.aload_n 0, 1) := by decide +kernel
theorem dX4_builds_18 : decode cX4_builds 18 = .ok (.aload_n 1, 1) := by decide +kernel
theorem dX4_builds_19 : decode cX4_builds 19 = .ok (.invokevirtual 27, 3) := by decide +kernel
theorem dX4_builds_22 : decode cX4_builds 22 = .ok (.ifCond .ne 5, 3) := by decide +kernel
theorem dX4_builds_25 : decode cX4_builds 25 = .ok (.iconst 0, 1) := by decide +kernel
theorem dX4_builds_26 : decode cX4_builds 26 = .ok (.ireturn, 1) := by decide +kernel
theorem dX4_builds_27 : decode cX4_builds 27 = .ok (.aload_n 0, 1) := by decide +kernel
theorem dX4_builds_28 : decode cX4_builds 28 = .ok (.getfield 24, 3) := by decide +kernel
theorem dX4_builds_31 : decode cX4_builds 31 = .ok (.aload_n 0, 1) := by decide +kernel
theorem dX4_builds_32 : decode cX4_builds 32 = .ok (.getfield 15, 3) := by decide +kernel
theorem dX4_builds_35 : decode cX4_builds 35 = .ok (.if_icmp .ne 5, 3) := by decide +kernel
theorem dX4_builds_38 : decode cX4_builds 38 = .ok (.iconst 1, 1) := by decide +kernel
theorem dX4_builds_39 : decode cX4_builds 39 = .ok (.ireturn, 1) := by decide +kernel
theorem dX4_builds_40 : decode cX4_builds 40 = .ok (.iload_n 2, 1) := by decide +kernel
theorem dX4_builds_41 : decode cX4_builds 41 = .ok (.bipush 10, 2) := by decide +kernel
theorem dX4_builds_43 : decode cX4_builds 43 = .ok (.if_icmp .eq 12, 3) := by decide +kernel
theorem dX4_builds_46 : decode cX4_builds 46 = .ok (.aload_n 0, 1) := by decide +kernel
theorem dX4_builds_47 : decode cX4_builds 47 = .ok (.bipush 59, 2) := by decide +kernel
theorem dX4_builds_49 : decode cX4_builds 49 = .ok (.invokevirtual 31, 3) := by decide +kernel
theorem dX4_builds_52 : decode cX4_builds 52 = .ok (.ifCond .ne 5, 3) := by decide +kernel
theorem dX4_builds_55 : decode cX4_builds 55 = .ok (.iconst 0, 1) := by decide +kernel
theorem dX4_builds_56 : decode cX4_builds 56 = .ok (.ireturn, 1) := by decide +kernel
theorem dX4_builds_57 : decode cX4_builds 57 = .ok (.iinc 2 1, 3) := by decide +kernel
theorem dX4_builds_60 : decode cX4_builds 60 = .ok (.goto (-49), 3) := by decide +kernel
theorem dX4_builds_63 : decode cX4_builds 63 = .ok (.iconst 0, 1) := by decide +kernel
theorem dX4_builds_64 : decode cX4_builds 64 = .ok (.ireturn, 1) := by decide +kernel
theorem dX4_readsClause_0 : decode cX4_readsClause 0 = .ok (.aload_n 0, 1) := by decide +kernel
theorem dX4_readsClause_1 : decode cX4_readsClause 1 = .ok (.invokevirtual 35, 3) := by decide +kernel
theorem dX4_readsClause_4 : decode cX4_readsClause 4 = .ok (.istore_n 2, 1) := by decide +kernel
theorem dX4_readsClause_5 : decode cX4_readsClause 5 = .ok (.iload_n 2, 1) := by decide +kernel
theorem dX4_readsClause_6 : decode cX4_readsClause 6 = .ok (.bipush 102, 2) := by decide +kernel
theorem dX4_readsClause_8 : decode cX4_readsClause 8 = .ok (.if_icmp .ne 8, 3) := by decide +kernel
theorem dX4_readsClause_11 : decode cX4_readsClause 11 = .ok (.ldc 39, 2) := by decide +kernel
theorem dX4_readsClause_13 : decode cX4_readsClause 13 = .ok (.goto 16, 3) := by decide +kernel
theorem dX4_readsClause_16 : decode cX4_readsClause 16 = .ok (.iload_n 2, 1) := by decide +kernel
theorem dX4_readsClause_17 : decode cX4_readsClause 17 = .ok (.bipush 108, 2) := by decide +kernel
theorem dX4_readsClause_19 : decode cX4_readsClause 19 = .ok (.if_icmp .ne 8, 3) := by decide +kernel
theorem dX4_readsClause_22 : decode cX4_readsClause 22 = .ok (.ldc 41, 2) := by decide +kernel
theorem dX4_readsClause_24 : decode cX4_readsClause 24 = .ok (.goto 5, 3) := by decide +kernel
theorem dX4_readsClause_27 : decode cX4_readsClause 27 = .ok (.ldc 43, 2) := by decide +kernel
theorem dX4_readsClause_29 : decode cX4_readsClause 29 = .ok (.astore_n 3, 1) := by decide +kernel
theorem dX4_readsClause_30 : decode cX4_readsClause 30 = .ok (.iconst 0, 1) := by decide +kernel
theorem dX4_readsClause_31 : decode cX4_readsClause 31 = .ok (.istore 4, 2) := by decide +kernel
theorem dX4_readsClause_33 : decode cX4_readsClause 33 = .ok (.iload 4, 2) := by decide +kernel
theorem dX4_readsClause_35 : decode cX4_readsClause 35 = .ok (.aload_n 3, 1) := by decide +kernel
theorem dX4_readsClause_36 : decode cX4_readsClause 36 = .ok (.invokevirtual 45, 3) := by decide +kernel
theorem dX4_readsClause_39 : decode cX4_readsClause 39 = .ok (.if_icmp .ge 24, 3) := by decide +kernel
theorem dX4_readsClause_42 : decode cX4_readsClause 42 = .ok (.aload_n 0, 1) := by decide +kernel
theorem dX4_readsClause_43 : decode cX4_readsClause 43 = .ok (.aload_n 3, 1) := by decide +kernel
theorem dX4_readsClause_44 : decode cX4_readsClause 44 = .ok (.iload 4, 2) := by decide +kernel
theorem dX4_readsClause_46 : decode cX4_readsClause 46 = .ok (.invokevirtual 49, 3) := by decide +kernel
theorem dX4_readsClause_49 : decode cX4_readsClause 49 = .ok (.invokevirtual 31, 3) := by decide +kernel
theorem dX4_readsClause_52 : decode cX4_readsClause 52 = .ok (.ifCond .ne 5, 3) := by decide +kernel
theorem dX4_readsClause_55 : decode cX4_readsClause 55 = .ok (.iconst 0, 1) := by decide +kernel
theorem dX4_readsClause_56 : decode cX4_readsClause 56 = .ok (.ireturn, 1) := by decide +kernel
theorem dX4_readsClause_57 : decode cX4_readsClause 57 = .ok (.iinc 4 1, 3) := by decide +kernel
theorem dX4_readsClause_60 : decode cX4_readsClause 60 = .ok (.goto (-27), 3) := by decide +kernel
theorem dX4_readsClause_63 : decode cX4_readsClause 63 = .ok (.aload_n 0, 1) := by decide +kernel
theorem dX4_readsClause_64 : decode cX4_readsClause 64 = .ok (.invokevirtual 53, 3) := by decide +kernel
theorem dX4_readsClause_67 : decode cX4_readsClause 67 = .ok (.istore 4, 2) := by decide +kernel
theorem dX4_readsClause_69 : decode cX4_readsClause 69 = .ok (.iload 4, 2) := by decide +kernel
theorem dX4_readsClause_71 : decode cX4_readsClause 71 = .ok (.ifCond .ge 5, 3) := by decide +kernel
theorem dX4_readsClause_74 : decode cX4_readsClause 74 = .ok (.iconst 0, 1) := by decide +kernel
theorem dX4_readsClause_75 : decode cX4_readsClause 75 = .ok (.ireturn, 1) := by decide +kernel
theorem dX4_readsClause_76 : decode cX4_readsClause 76 = .ok (.iload_n 2, 1) := by decide +kernel
theorem dX4_readsClause_77 : decode cX4_readsClause 77 = .ok (.bipush 107, 2) := by decide +kernel
theorem dX4_readsClause_79 : decode cX4_readsClause 79 = .ok (.if_icmp .ne 11, 3) := by decide +kernel
theorem dX4_readsClause_82 : decode cX4_readsClause 82 = .ok (.aload_n 1, 1) := by decide +kernel
theorem dX4_readsClause_83 : decode cX4_readsClause 83 = .ok (.iload 4, 2) := by decide +kernel
theorem dX4_readsClause_85 : decode cX4_readsClause 85 = .ok (.putfield 56, 3) := by decide +kernel
theorem dX4_readsClause_88 : decode cX4_readsClause 88 = .ok (.iconst 1, 1) := by decide +kernel
theorem dX4_readsClause_89 : decode cX4_readsClause 89 = .ok (.ireturn, 1) := by decide +kernel
theorem dX4_readsClause_90 : decode cX4_readsClause 90 = .ok (.aload_n 0, 1) := by decide +kernel
theorem dX4_readsClause_91 : decode cX4_readsClause 91 = .ok (.bipush 32, 2) := by decide +kernel
theorem dX4_readsClause_93 : decode cX4_readsClause 93 = .ok (.invokevirtual 31, 3) := by decide +kernel
theorem dX4_readsClause_96 : decode cX4_readsClause 96 = .ok (.ifCond .eq 12, 3) := by decide +kernel
theorem dX4_readsClause_99 : decode cX4_readsClause 99 = .ok (.aload_n 0, 1) := by decide +kernel
theorem dX4_readsClause_100 : decode cX4_readsClause 100 = .ok (.aload_n 1, 1) := by decide +kernel
theorem dX4_readsClause_101 : decode cX4_readsClause 101 = .ok (.iconst 0, 1) := by decide +kernel
theorem dX4_readsClause_102 : decode cX4_readsClause 102 = .ok (.invokevirtual 59, 3) := by decide +kernel
theorem dX4_readsClause_105 : decode cX4_readsClause 105 = .ok (.ifCond .ne 5, 3) := by decide +kernel
theorem dX4_readsClause_108 : decode cX4_readsClause 108 = .ok (.iconst 0, 1) := by decide +kernel
theorem dX4_readsClause_109 : decode cX4_readsClause 109 = .ok (.ireturn, 1) := by decide +kernel
theorem dX4_readsClause_110 : decode cX4_readsClause 110 = .ok (.aload_n 1, 1) := by decide +kernel
theorem dX4_readsClause_111 : decode cX4_readsClause 111 = .ok (.iload_n 2, 1) := by decide +kernel
theorem dX4_readsClause_112 : decode cX4_readsClause 112 = .ok (.bipush 102, 2) := by decide +kernel
theorem dX4_readsClause_114 : decode cX4_readsClause 114 = .ok (.if_icmp .ne 11, 3) := by decide +kernel
theorem dX4_readsClause_117 : decode cX4_readsClause 117 = .ok (.ldc 63, 2) := by decide +kernel
theorem dX4_readsClause_119 : decode cX4_readsClause 119 = .ok (.iload 4, 2) := by decide +kernel
theorem dX4_readsClause_121 : decode cX4_readsClause 121 = .ok (.iadd, 1) := by decide +kernel
theorem dX4_readsClause_122 : decode cX4_readsClause 122 = .ok (.goto 8, 3) := by decide +kernel
theorem dX4_readsClause_125 : decode cX4_readsClause 125 = .ok (.ldc 63, 2) := by decide +kernel
theorem dX4_readsClause_127 : decode cX4_readsClause 127 = .ok (.iload 4, 2) := by decide +kernel
theorem dX4_readsClause_129 : decode cX4_readsClause 129 = .ok (.isub, 1) := by decide +kernel
theorem dX4_readsClause_130 : decode cX4_readsClause 130 = .ok (.invokevirtual 64, 3) := by decide +kernel
theorem dX4_readsClause_133 : decode cX4_readsClause 133 = .ok (.iconst 1, 1) := by decide +kernel
theorem dX4_readsClause_134 : decode cX4_readsClause 134 = .ok (.ireturn, 1) := by decide +kernel
theorem dX4_readsChoice_0 : decode cX4_readsChoice 0 = .ok (.iconst 0, 1) := by decide +kernel
theorem dX4_readsChoice_1 : decode cX4_readsChoice 1 = .ok (.istore_n 3, 1) := by decide +kernel
theorem dX4_readsChoice_2 : decode cX4_readsChoice 2 = .ok (.iconst 0, 1) := by decide +kernel
theorem dX4_readsChoice_3 : decode cX4_readsChoice 3 = .ok (.istore 4, 2) := by decide +kernel
theorem dX4_readsChoice_5 : decode cX4_readsChoice 5 = .ok (.iconst 0, 1) := by decide +kernel
theorem dX4_readsChoice_6 : decode cX4_readsChoice 6 = .ok (.istore 5, 2) := by decide +kernel
theorem dX4_readsChoice_8 : decode cX4_readsChoice 8 = .ok (.iload 5, 2) := by decide +kernel
theorem dX4_readsChoice_10 : decode cX4_readsChoice 10 = .ok (.bipush 100, 2) := by decide +kernel
theorem dX4_readsChoice_12 : decode cX4_readsChoice 12 = .ok (.if_icmp .ge 97, 3) := by decide +kernel
theorem dX4_readsChoice_15 : decode cX4_readsChoice 15 = .ok (.aload_n 0, 1) := by decide +kernel
theorem dX4_readsChoice_16 : decode cX4_readsChoice 16 = .ok (.aload_n 1, 1) := by decide +kernel
theorem dX4_readsChoice_17 : decode cX4_readsChoice 17 = .ok (.iload_n 2, 1) := by decide +kernel
theorem dX4_readsChoice_18 : decode cX4_readsChoice 18 = .ok (.invokevirtual 68, 3) := by decide +kernel
theorem dX4_readsChoice_21 : decode cX4_readsChoice 21 = .ok (.ifCond .ne 5, 3) := by decide +kernel
theorem dX4_readsChoice_24 : decode cX4_readsChoice 24 = .ok (.iconst 0, 1) := by decide +kernel
theorem dX4_readsChoice_25 : decode cX4_readsChoice 25 = .ok (.ireturn, 1) := by decide +kernel
theorem dX4_readsChoice_26 : decode cX4_readsChoice 26 = .ok (.iload_n 3, 1) := by decide +kernel
theorem dX4_readsChoice_27 : decode cX4_readsChoice 27 = .ok (.ifCond .eq 9, 3) := by decide +kernel
theorem dX4_readsChoice_30 : decode cX4_readsChoice 30 = .ok (.aload_n 1, 1) := by decide +kernel
theorem dX4_readsChoice_31 : decode cX4_readsChoice 31 = .ok (.bipush (-2), 2) := by decide +kernel
theorem dX4_readsChoice_33 : decode cX4_readsChoice 33 = .ok (.invokevirtual 64, 3) := by decide +kernel
theorem dX4_readsChoice_36 : decode cX4_readsChoice 36 = .ok (.aload_n 0, 1) := by decide +kernel
theorem dX4_readsChoice_37 : decode cX4_readsChoice 37 = .ok (.invokevirtual 35, 3) := by decide +kernel
theorem dX4_readsChoice_40 : decode cX4_readsChoice 40 = .ok (.bipush 38, 2) := by decide +kernel
theorem dX4_readsChoice_42 : decode cX4_readsChoice 42 = .ok (.if_icmp .ne 7, 3) := by decide +kernel
theorem dX4_readsChoice_45 : decode cX4_readsChoice 45 = .ok (.iconst 1, 1) := by decide +kernel
theorem dX4_readsChoice_46 : decode cX4_readsChoice 46 = .ok (.goto 4, 3) := by decide +kernel
theorem dX4_readsChoice_49 : decode cX4_readsChoice 49 = .ok (.iconst 0, 1) := by decide +kernel
theorem dX4_readsChoice_50 : decode cX4_readsChoice 50 = .ok (.istore_n 3, 1) := by decide +kernel
theorem dX4_readsChoice_51 : decode cX4_readsChoice 51 = .ok (.iload_n 3, 1) := by decide +kernel
theorem dX4_readsChoice_52 : decode cX4_readsChoice 52 = .ok (.ifCond .ne 30, 3) := by decide +kernel
theorem dX4_readsChoice_55 : decode cX4_readsChoice 55 = .ok (.iload 4, 2) := by decide +kernel
theorem dX4_readsChoice_57 : decode cX4_readsChoice 57 = .ok (.ifCond .eq 9, 3) := by decide +kernel
theorem dX4_readsChoice_60 : decode cX4_readsChoice 60 = .ok (.aload_n 1, 1) := by decide +kernel
theorem dX4_readsChoice_61 : decode cX4_readsChoice 61 = .ok (.bipush (-3), 2) := by decide +kernel
theorem dX4_readsChoice_63 : decode cX4_readsChoice 63 = .ok (.invokevirtual 64, 3) := by decide +kernel
theorem dX4_readsChoice_66 : decode cX4_readsChoice 66 = .ok (.aload_n 0, 1) := by decide +kernel
theorem dX4_readsChoice_67 : decode cX4_readsChoice 67 = .ok (.invokevirtual 35, 3) := by decide +kernel
theorem dX4_readsChoice_70 : decode cX4_readsChoice 70 = .ok (.bipush 124, 2) := by decide +kernel
theorem dX4_readsChoice_72 : decode cX4_readsChoice 72 = .ok (.if_icmp .ne 7, 3) := by decide +kernel
theorem dX4_readsChoice_75 : decode cX4_readsChoice 75 = .ok (.iconst 1, 1) := by decide +kernel
theorem dX4_readsChoice_76 : decode cX4_readsChoice 76 = .ok (.goto 4, 3) := by decide +kernel
theorem dX4_readsChoice_79 : decode cX4_readsChoice 79 = .ok (.iconst 0, 1) := by decide +kernel
theorem dX4_readsChoice_80 : decode cX4_readsChoice 80 = .ok (.istore 4, 2) := by decide +kernel
theorem dX4_readsChoice_82 : decode cX4_readsChoice 82 = .ok (.iload_n 3, 1) := by decide +kernel
theorem dX4_readsChoice_83 : decode cX4_readsChoice 83 = .ok (.ifCond .ne 10, 3) := by decide +kernel
theorem dX4_readsChoice_86 : decode cX4_readsChoice 86 = .ok (.iload 4, 2) := by decide +kernel
theorem dX4_readsChoice_88 : decode cX4_readsChoice 88 = .ok (.ifCond .ne 5, 3) := by decide +kernel
theorem dX4_readsChoice_91 : decode cX4_readsChoice 91 = .ok (.iconst 1, 1) := by decide +kernel
theorem dX4_readsChoice_92 : decode cX4_readsChoice 92 = .ok (.ireturn, 1) := by decide +kernel
theorem dX4_readsChoice_93 : decode cX4_readsChoice 93 = .ok (.aload_n 0, 1) := by decide +kernel
theorem dX4_readsChoice_94 : decode cX4_readsChoice 94 = .ok (.dup, 1) := by decide +kernel
theorem dX4_readsChoice_95 : decode cX4_readsChoice 95 = .ok (.getfield 24, 3) := by decide +kernel
theorem dX4_readsChoice_98 : decode cX4_readsChoice 98 = .ok (.iconst 1, 1) := by decide +kernel
theorem dX4_readsChoice_99 : decode cX4_readsChoice 99 = .ok (.iadd, 1) := by decide +kernel
theorem dX4_readsChoice_100 : decode cX4_readsChoice 100 = .ok (.putfield 24, 3) := by decide +kernel
theorem dX4_readsChoice_103 : decode cX4_readsChoice 103 = .ok (.iinc 5 1, 3) := by decide +kernel
theorem dX4_readsChoice_106 : decode cX4_readsChoice 106 = .ok (.goto (-98), 3) := by decide +kernel
theorem dX4_readsChoice_109 : decode cX4_readsChoice 109 = .ok (.iconst 0, 1) := by decide +kernel
theorem dX4_readsChoice_110 : decode cX4_readsChoice 110 = .ok (.ireturn, 1) := by decide +kernel
theorem dX4_readsOne_0 : decode cX4_readsOne 0 = .ok (.iload_n 2, 1) := by decide +kernel
theorem dX4_readsOne_1 : decode cX4_readsOne 1 = .ok (.iconst 4, 1) := by decide +kernel
theorem dX4_readsOne_2 : decode cX4_readsOne 2 = .ok (.if_icmp .ge 48, 3) := by decide +kernel
theorem dX4_readsOne_5 : decode cX4_readsOne 5 = .ok (.aload_n 0, 1) := by decide +kernel
theorem dX4_readsOne_6 : decode cX4_readsOne 6 = .ok (.invokevirtual 35, 3) := by decide +kernel
theorem dX4_readsOne_9 : decode cX4_readsOne 9 = .ok (.bipush 40, 2) := by decide +kernel
theorem dX4_readsOne_11 : decode cX4_readsOne 11 = .ok (.if_icmp .ne 39, 3) := by decide +kernel
theorem dX4_readsOne_14 : decode cX4_readsOne 14 = .ok (.aload_n 0, 1) := by decide +kernel
theorem dX4_readsOne_15 : decode cX4_readsOne 15 = .ok (.dup, 1) := by decide +kernel
theorem dX4_readsOne_16 : decode cX4_readsOne 16 = .ok (.getfield 24, 3) := by decide +kernel
theorem dX4_readsOne_19 : decode cX4_readsOne 19 = .ok (.iconst 1, 1) := by decide +kernel
theorem dX4_readsOne_20 : decode cX4_readsOne 20 = .ok (.iadd, 1) := by decide +kernel
theorem dX4_readsOne_21 : decode cX4_readsOne 21 = .ok (.putfield 24, 3) := by decide +kernel
theorem dX4_readsOne_24 : decode cX4_readsOne 24 = .ok (.aload_n 0, 1) := by decide +kernel
theorem dX4_readsOne_25 : decode cX4_readsOne 25 = .ok (.aload_n 1, 1) := by decide +kernel
theorem dX4_readsOne_26 : decode cX4_readsOne 26 = .ok (.iload_n 2, 1) := by decide +kernel
theorem dX4_readsOne_27 : decode cX4_readsOne 27 = .ok (.iconst 1, 1) := by decide +kernel
theorem dX4_readsOne_28 : decode cX4_readsOne 28 = .ok (.iadd, 1) := by decide +kernel
theorem dX4_readsOne_29 : decode cX4_readsOne 29 = .ok (.invokevirtual 59, 3) := by decide +kernel
theorem dX4_readsOne_32 : decode cX4_readsOne 32 = .ok (.ifCond .eq 16, 3) := by decide +kernel
theorem dX4_readsOne_35 : decode cX4_readsOne 35 = .ok (.aload_n 0, 1) := by decide +kernel
theorem dX4_readsOne_36 : decode cX4_readsOne 36 = .ok (.bipush 41, 2) := by decide +kernel
theorem dX4_readsOne_38 : decode cX4_readsOne 38 = .ok (.invokevirtual 31, 3) := by decide +kernel
theorem dX4_readsOne_41 : decode cX4_readsOne 41 = .ok (.ifCond .eq 7, 3) := by decide +kernel
theorem dX4_readsOne_44 : decode cX4_readsOne 44 = .ok (.iconst 1, 1) := by decide +kernel
theorem dX4_readsOne_45 : decode cX4_readsOne 45 = .ok (.goto 4, 3) := by decide +kernel
theorem dX4_readsOne_48 : decode cX4_readsOne 48 = .ok (.iconst 0, 1) := by decide +kernel
theorem dX4_readsOne_49 : decode cX4_readsOne 49 = .ok (.ireturn, 1) := by decide +kernel
theorem dX4_readsOne_50 : decode cX4_readsOne 50 = .ok (.iload_n 2, 1) := by decide +kernel
theorem dX4_readsOne_51 : decode cX4_readsOne 51 = .ok (.iconst 4, 1) := by decide +kernel
theorem dX4_readsOne_52 : decode cX4_readsOne 52 = .ok (.if_icmp .ge 42, 3) := by decide +kernel
theorem dX4_readsOne_55 : decode cX4_readsOne 55 = .ok (.aload_n 0, 1) := by decide +kernel
theorem dX4_readsOne_56 : decode cX4_readsOne 56 = .ok (.invokevirtual 35, 3) := by decide +kernel
theorem dX4_readsOne_59 : decode cX4_readsOne 59 = .ok (.bipush 33, 2) := by decide +kernel
theorem dX4_readsOne_61 : decode cX4_readsOne 61 = .ok (.if_icmp .ne 33, 3) := by decide +kernel
theorem dX4_readsOne_64 : decode cX4_readsOne 64 = .ok (.aload_n 0, 1) := by decide +kernel
theorem dX4_readsOne_65 : decode cX4_readsOne 65 = .ok (.dup, 1) := by decide +kernel
theorem dX4_readsOne_66 : decode cX4_readsOne 66 = .ok (.getfield 24, 3) := by decide +kernel
theorem dX4_readsOne_69 : decode cX4_readsOne 69 = .ok (.iconst 1, 1) := by decide +kernel
theorem dX4_readsOne_70 : decode cX4_readsOne 70 = .ok (.iadd, 1) := by decide +kernel
theorem dX4_readsOne_71 : decode cX4_readsOne 71 = .ok (.putfield 24, 3) := by decide +kernel
theorem dX4_readsOne_74 : decode cX4_readsOne 74 = .ok (.aload_n 0, 1) := by decide +kernel
theorem dX4_readsOne_75 : decode cX4_readsOne 75 = .ok (.aload_n 1, 1) := by decide +kernel
theorem dX4_readsOne_76 : decode cX4_readsOne 76 = .ok (.iload_n 2, 1) := by decide +kernel
theorem dX4_readsOne_77 : decode cX4_readsOne 77 = .ok (.iconst 1, 1) := by decide +kernel
theorem dX4_readsOne_78 : decode cX4_readsOne 78 = .ok (.iadd, 1) := by decide +kernel
theorem dX4_readsOne_79 : decode cX4_readsOne 79 = .ok (.invokevirtual 68, 3) := by decide +kernel
theorem dX4_readsOne_82 : decode cX4_readsOne 82 = .ok (.ifCond .ne 5, 3) := by decide +kernel
theorem dX4_readsOne_85 : decode cX4_readsOne 85 = .ok (.iconst 0, 1) := by decide +kernel
theorem dX4_readsOne_86 : decode cX4_readsOne 86 = .ok (.ireturn, 1) := by decide +kernel
theorem dX4_readsOne_87 : decode cX4_readsOne 87 = .ok (.aload_n 1, 1) := by decide +kernel
theorem dX4_readsOne_88 : decode cX4_readsOne 88 = .ok (.iconst (-1), 1) := by decide +kernel
theorem dX4_readsOne_89 : decode cX4_readsOne 89 = .ok (.invokevirtual 64, 3) := by decide +kernel
theorem dX4_readsOne_92 : decode cX4_readsOne 92 = .ok (.iconst 1, 1) := by decide +kernel
theorem dX4_readsOne_93 : decode cX4_readsOne 93 = .ok (.ireturn, 1) := by decide +kernel
theorem dX4_readsOne_94 : decode cX4_readsOne 94 = .ok (.aload_n 0, 1) := by decide +kernel
theorem dX4_readsOne_95 : decode cX4_readsOne 95 = .ok (.aload_n 1, 1) := by decide +kernel
theorem dX4_readsOne_96 : decode cX4_readsOne 96 = .ok (.invokevirtual 71, 3) := by decide +kernel
theorem dX4_readsOne_99 : decode cX4_readsOne 99 = .ok (.ireturn, 1) := by decide +kernel
theorem dX4_readsTest_0 : decode cX4_readsTest 0 = .ok (.aload_n 0, 1) := by decide +kernel
theorem dX4_readsTest_1 : decode cX4_readsTest 1 = .ok (.ldc 74, 2) := by decide +kernel
theorem dX4_readsTest_3 : decode cX4_readsTest 3 = .ok (.invokevirtual 76, 3) := by decide +kernel
theorem dX4_readsTest_6 : decode cX4_readsTest 6 = .ok (.istore_n 2, 1) := by decide +kernel
theorem dX4_readsTest_7 : decode cX4_readsTest 7 = .ok (.iload_n 2, 1) := by decide +kernel
theorem dX4_readsTest_8 : decode cX4_readsTest 8 = .ok (.ifCond .ge 5, 3) := by decide +kernel
theorem dX4_readsTest_11 : decode cX4_readsTest 11 = .ok (.iconst 0, 1) := by decide +kernel
theorem dX4_readsTest_12 : decode cX4_readsTest 12 = .ok (.ireturn, 1) := by decide +kernel
theorem dX4_readsTest_13 : decode cX4_readsTest 13 = .ok (.aload_n 0, 1) := by decide +kernel
theorem dX4_readsTest_14 : decode cX4_readsTest 14 = .ok (.ldc 80, 2) := by decide +kernel
theorem dX4_readsTest_16 : decode cX4_readsTest 16 = .ok (.invokevirtual 76, 3) := by decide +kernel
theorem dX4_readsTest_19 : decode cX4_readsTest 19 = .ok (.istore_n 3, 1) := by decide +kernel
theorem dX4_readsTest_20 : decode cX4_readsTest 20 = .ok (.iload_n 3, 1) := by decide +kernel
theorem dX4_readsTest_21 : decode cX4_readsTest 21 = .ok (.ifCond .ge 5, 3) := by decide +kernel
theorem dX4_readsTest_24 : decode cX4_readsTest 24 = .ok (.iconst 0, 1) := by decide +kernel
theorem dX4_readsTest_25 : decode cX4_readsTest 25 = .ok (.ireturn, 1) := by decide +kernel
theorem dX4_readsTest_26 : decode cX4_readsTest 26 = .ok (.aload_n 0, 1) := by decide +kernel
theorem dX4_readsTest_27 : decode cX4_readsTest 27 = .ok (.invokevirtual 53, 3) := by decide +kernel
theorem dX4_readsTest_30 : decode cX4_readsTest 30 = .ok (.istore 4, 2) := by decide +kernel
theorem dX4_readsTest_32 : decode cX4_readsTest 32 = .ok (.iload 4, 2) := by decide +kernel
theorem dX4_readsTest_34 : decode cX4_readsTest 34 = .ok (.ifCond .ge 5, 3) := by decide +kernel
theorem dX4_readsTest_37 : decode cX4_readsTest 37 = .ok (.iconst 0, 1) := by decide +kernel
theorem dX4_readsTest_38 : decode cX4_readsTest 38 = .ok (.ireturn, 1) := by decide +kernel
theorem dX4_readsTest_39 : decode cX4_readsTest 39 = .ok (.iload_n 3, 1) := by decide +kernel
theorem dX4_readsTest_40 : decode cX4_readsTest 40 = .ok (.ifCond .ne 7, 3) := by decide +kernel
theorem dX4_readsTest_43 : decode cX4_readsTest 43 = .ok (.iconst 0, 1) := by decide +kernel
theorem dX4_readsTest_44 : decode cX4_readsTest 44 = .ok (.goto 17, 3) := by decide +kernel
theorem dX4_readsTest_47 : decode cX4_readsTest 47 = .ok (.iload_n 3, 1) := by decide +kernel
theorem dX4_readsTest_48 : decode cX4_readsTest 48 = .ok (.iconst 1, 1) := by decide +kernel
theorem dX4_readsTest_49 : decode cX4_readsTest 49 = .ok (.if_icmp .ne 8, 3) := by decide +kernel
theorem dX4_readsTest_52 : decode cX4_readsTest 52 = .ok (.iload 4, 2) := by decide +kernel
theorem dX4_readsTest_54 : decode cX4_readsTest 54 = .ok (.goto 7, 3) := by decide +kernel
theorem dX4_readsTest_57 : decode cX4_readsTest 57 = .ok (.iload 4, 2) := by decide +kernel
theorem dX4_readsTest_59 : decode cX4_readsTest 59 = .ok (.iconst 1, 1) := by decide +kernel
theorem dX4_readsTest_60 : decode cX4_readsTest 60 = .ok (.iadd, 1) := by decide +kernel
theorem dX4_readsTest_61 : decode cX4_readsTest 61 = .ok (.istore 5, 2) := by decide +kernel
theorem dX4_readsTest_63 : decode cX4_readsTest 63 = .ok (.iload_n 3, 1) := by decide +kernel
theorem dX4_readsTest_64 : decode cX4_readsTest 64 = .ok (.ifCond .ne 8, 3) := by decide +kernel
theorem dX4_readsTest_67 : decode cX4_readsTest 67 = .ok (.iload 4, 2) := by decide +kernel
theorem dX4_readsTest_69 : decode cX4_readsTest 69 = .ok (.goto 17, 3) := by decide +kernel
theorem dX4_readsTest_72 : decode cX4_readsTest 72 = .ok (.iload_n 3, 1) := by decide +kernel
theorem dX4_readsTest_73 : decode cX4_readsTest 73 = .ok (.iconst 1, 1) := by decide +kernel
theorem dX4_readsTest_74 : decode cX4_readsTest 74 = .ok (.if_icmp .ne 10, 3) := by decide +kernel
theorem dX4_readsTest_77 : decode cX4_readsTest 77 = .ok (.iload 4, 2) := by decide +kernel
theorem dX4_readsTest_79 : decode cX4_readsTest 79 = .ok (.iconst 1, 1) := by decide +kernel
theorem dX4_readsTest_80 : decode cX4_readsTest 80 = .ok (.iadd, 1) := by decide +kernel
theorem dX4_readsTest_81 : decode cX4_readsTest 81 = .ok (.goto 5, 3) := by decide +kernel
theorem dX4_readsTest_84 : decode cX4_readsTest 84 = .ok (.bipush 127, 2) := by decide +kernel
theorem dX4_readsTest_86 : decode cX4_readsTest 86 = .ok (.istore 6, 2) := by decide +kernel
theorem dX4_readsTest_88 : decode cX4_readsTest 88 = .ok (.aload_n 1, 1) := by decide +kernel
theorem dX4_readsTest_89 : decode cX4_readsTest 89 = .ok (.iload_n 2, 1) := by decide +kernel
theorem dX4_readsTest_90 : decode cX4_readsTest 90 = .ok (.bipush 14, 2) := by decide +kernel
theorem dX4_readsTest_92 : decode cX4_readsTest 92 = .ok (.ishl, 1) := by decide +kernel
theorem dX4_readsTest_93 : decode cX4_readsTest 93 = .ok (.iload 5, 2) := by decide +kernel
theorem dX4_readsTest_95 : decode cX4_readsTest 95 = .ok (.bipush 7, 2) := by decide +kernel
theorem dX4_readsTest_97 : decode cX4_readsTest 97 = .ok (.ishl, 1) := by decide +kernel
theorem dX4_readsTest_98 : decode cX4_readsTest 98 = .ok (.ior, 1) := by decide +kernel
theorem dX4_readsTest_99 : decode cX4_readsTest 99 = .ok (.iload 6, 2) := by decide +kernel
theorem dX4_readsTest_101 : decode cX4_readsTest 101 = .ok (.ior, 1) := by decide +kernel
theorem dX4_readsTest_102 : decode cX4_readsTest 102 = .ok (.invokevirtual 64, 3) := by decide +kernel
theorem dX4_readsTest_105 : decode cX4_readsTest 105 = .ok (.iconst 1, 1) := by decide +kernel
theorem dX4_readsTest_106 : decode cX4_readsTest 106 = .ok (.ireturn, 1) := by decide +kernel
theorem dX4_readsAnyOf_0 : decode cX4_readsAnyOf 0 = .ok (.aload_n 0, 1) := by decide +kernel
theorem dX4_readsAnyOf_1 : decode cX4_readsAnyOf 1 = .ok (.getfield 24, 3) := by decide +kernel
theorem dX4_readsAnyOf_4 : decode cX4_readsAnyOf 4 = .ok (.aload_n 0, 1) := by decide +kernel
theorem dX4_readsAnyOf_5 : decode cX4_readsAnyOf 5 = .ok (.getfield 15, 3) := by decide +kernel
theorem dX4_readsAnyOf_8 : decode cX4_readsAnyOf 8 = .ok (.if_icmp .lt 5, 3) := by decide +kernel
theorem dX4_readsAnyOf_11 : decode cX4_readsAnyOf 11 = .ok (.iconst (-1), 1) := by decide +kernel
theorem dX4_readsAnyOf_12 : decode cX4_readsAnyOf 12 = .ok (.ireturn, 1) := by decide +kernel
theorem dX4_readsAnyOf_13 : decode cX4_readsAnyOf 13 = .ok (.aload_n 1, 1) := by decide +kernel
theorem dX4_readsAnyOf_14 : decode cX4_readsAnyOf 14 = .ok (.aload_n 0, 1) := by decide +kernel
theorem dX4_readsAnyOf_15 : decode cX4_readsAnyOf 15 = .ok (.getfield 9, 3) := by decide +kernel
theorem dX4_readsAnyOf_18 : decode cX4_readsAnyOf 18 = .ok (.aload_n 0, 1) := by decide +kernel
theorem dX4_readsAnyOf_19 : decode cX4_readsAnyOf 19 = .ok (.getfield 24, 3) := by decide +kernel
theorem dX4_readsAnyOf_22 : decode cX4_readsAnyOf 22 = .ok (.iaload, 1) := by decide +kernel
theorem dX4_readsAnyOf_23 : decode cX4_readsAnyOf 23 = .ok (.i2c, 1) := by decide +kernel
theorem dX4_readsAnyOf_24 : decode cX4_readsAnyOf 24 = .ok (.invokevirtual 82, 3) := by decide +kernel
theorem dX4_readsAnyOf_27 : decode cX4_readsAnyOf 27 = .ok (.istore_n 2, 1) := by decide +kernel
theorem dX4_readsAnyOf_28 : decode cX4_readsAnyOf 28 = .ok (.aload_n 0, 1) := by decide +kernel
theorem dX4_readsAnyOf_29 : decode cX4_readsAnyOf 29 = .ok (.dup, 1) := by decide +kernel
theorem dX4_readsAnyOf_30 : decode cX4_readsAnyOf 30 = .ok (.getfield 24, 3) := by decide +kernel
theorem dX4_readsAnyOf_33 : decode cX4_readsAnyOf 33 = .ok (.iload_n 2, 1) := by decide +kernel
theorem dX4_readsAnyOf_34 : decode cX4_readsAnyOf 34 = .ok (.ifCond .ge 7, 3) := by decide +kernel
theorem dX4_readsAnyOf_37 : decode cX4_readsAnyOf 37 = .ok (.iconst 0, 1) := by decide +kernel
theorem dX4_readsAnyOf_38 : decode cX4_readsAnyOf 38 = .ok (.goto 4, 3) := by decide +kernel
theorem dX4_readsAnyOf_41 : decode cX4_readsAnyOf 41 = .ok (.iconst 1, 1) := by decide +kernel
theorem dX4_readsAnyOf_42 : decode cX4_readsAnyOf 42 = .ok (.iadd, 1) := by decide +kernel
theorem dX4_readsAnyOf_43 : decode cX4_readsAnyOf 43 = .ok (.putfield 24, 3) := by decide +kernel
theorem dX4_readsAnyOf_46 : decode cX4_readsAnyOf 46 = .ok (.iload_n 2, 1) := by decide +kernel
theorem dX4_readsAnyOf_47 : decode cX4_readsAnyOf 47 = .ok (.ireturn, 1) := by decide +kernel
theorem dX4_readsNumber_0 : decode cX4_readsNumber 0 = .ok (.iconst (-1), 1) := by decide +kernel
theorem dX4_readsNumber_1 : decode cX4_readsNumber 1 = .ok (.istore_n 1, 1) := by decide +kernel
theorem dX4_readsNumber_2 : decode cX4_readsNumber 2 = .ok (.iconst 0, 1) := by decide +kernel
theorem dX4_readsNumber_3 : decode cX4_readsNumber 3 = .ok (.istore_n 2, 1) := by decide +kernel
theorem dX4_readsNumber_4 : decode cX4_readsNumber 4 = .ok (.iload_n 2, 1) := by decide +kernel
theorem dX4_readsNumber_5 : decode cX4_readsNumber 5 = .ok (.iconst 2, 1) := by decide +kernel
theorem dX4_readsNumber_6 : decode cX4_readsNumber 6 = .ok (.if_icmp .ge 84, 3) := by decide +kernel
theorem dX4_readsNumber_9 : decode cX4_readsNumber 9 = .ok (.aload_n 0, 1) := by decide +kernel
theorem dX4_readsNumber_10 : decode cX4_readsNumber 10 = .ok (.getfield 24, 3) := by decide +kernel
theorem dX4_readsNumber_13 : decode cX4_readsNumber 13 = .ok (.aload_n 0, 1) := by decide +kernel
theorem dX4_readsNumber_14 : decode cX4_readsNumber 14 = .ok (.getfield 15, 3) := by decide +kernel
theorem dX4_readsNumber_17 : decode cX4_readsNumber 17 = .ok (.if_icmp .ge 73, 3) := by decide +kernel
theorem dX4_readsNumber_20 : decode cX4_readsNumber 20 = .ok (.aload_n 0, 1) := by decide +kernel
theorem dX4_readsNumber_21 : decode cX4_readsNumber 21 = .ok (.getfield 9, 3) := by decide +kernel
theorem dX4_readsNumber_24 : decode cX4_readsNumber 24 = .ok (.aload_n 0, 1) := by decide +kernel
theorem dX4_readsNumber_25 : decode cX4_readsNumber 25 = .ok (.getfield 24, 3) := by decide +kernel
theorem dX4_readsNumber_28 : decode cX4_readsNumber 28 = .ok (.iaload, 1) := by decide +kernel
theorem dX4_readsNumber_29 : decode cX4_readsNumber 29 = .ok (.bipush 48, 2) := by decide +kernel
theorem dX4_readsNumber_31 : decode cX4_readsNumber 31 = .ok (.if_icmp .lt 59, 3) := by decide +kernel
theorem dX4_readsNumber_34 : decode cX4_readsNumber 34 = .ok (.aload_n 0, 1) := by decide +kernel
theorem dX4_readsNumber_35 : decode cX4_readsNumber 35 = .ok (.getfield 9, 3) := by decide +kernel
theorem dX4_readsNumber_38 : decode cX4_readsNumber 38 = .ok (.aload_n 0, 1) := by decide +kernel
theorem dX4_readsNumber_39 : decode cX4_readsNumber 39 = .ok (.getfield 24, 3) := by decide +kernel
theorem dX4_readsNumber_42 : decode cX4_readsNumber 42 = .ok (.iaload, 1) := by decide +kernel
theorem dX4_readsNumber_43 : decode cX4_readsNumber 43 = .ok (.bipush 57, 2) := by decide +kernel
theorem dX4_readsNumber_45 : decode cX4_readsNumber 45 = .ok (.if_icmp .gt 45, 3) := by decide +kernel
theorem dX4_readsNumber_48 : decode cX4_readsNumber 48 = .ok (.iload_n 1, 1) := by decide +kernel
theorem dX4_readsNumber_49 : decode cX4_readsNumber 49 = .ok (.ifCond .ge 7, 3) := by decide +kernel
theorem dX4_readsNumber_52 : decode cX4_readsNumber 52 = .ok (.iconst 0, 1) := by decide +kernel
theorem dX4_readsNumber_53 : decode cX4_readsNumber 53 = .ok (.goto 7, 3) := by decide +kernel
theorem dX4_readsNumber_56 : decode cX4_readsNumber 56 = .ok (.iload_n 1, 1) := by decide +kernel
theorem dX4_readsNumber_57 : decode cX4_readsNumber 57 = .ok (.bipush 10, 2) := by decide +kernel
theorem dX4_readsNumber_59 : decode cX4_readsNumber 59 = .ok (.imul, 1) := by decide +kernel
theorem dX4_readsNumber_60 : decode cX4_readsNumber 60 = .ok (.aload_n 0, 1) := by decide +kernel
theorem dX4_readsNumber_61 : decode cX4_readsNumber 61 = .ok (.getfield 9, 3) := by decide +kernel
theorem dX4_readsNumber_64 : decode cX4_readsNumber 64 = .ok (.aload_n 0, 1) := by decide +kernel
theorem dX4_readsNumber_65 : decode cX4_readsNumber 65 = .ok (.getfield 24, 3) := by decide +kernel
theorem dX4_readsNumber_68 : decode cX4_readsNumber 68 = .ok (.iaload, 1) := by decide +kernel
theorem dX4_readsNumber_69 : decode cX4_readsNumber 69 = .ok (.iadd, 1) := by decide +kernel
theorem dX4_readsNumber_70 : decode cX4_readsNumber 70 = .ok (.bipush 48, 2) := by decide +kernel
theorem dX4_readsNumber_72 : decode cX4_readsNumber 72 = .ok (.isub, 1) := by decide +kernel
theorem dX4_readsNumber_73 : decode cX4_readsNumber 73 = .ok (.istore_n 1, 1) := by decide +kernel
theorem dX4_readsNumber_74 : decode cX4_readsNumber 74 = .ok (.aload_n 0, 1) := by decide +kernel
theorem dX4_readsNumber_75 : decode cX4_readsNumber 75 = .ok (.dup, 1) := by decide +kernel
theorem dX4_readsNumber_76 : decode cX4_readsNumber 76 = .ok (.getfield 24, 3) := by decide +kernel
theorem dX4_readsNumber_79 : decode cX4_readsNumber 79 = .ok (.iconst 1, 1) := by decide +kernel
theorem dX4_readsNumber_80 : decode cX4_readsNumber 80 = .ok (.iadd, 1) := by decide +kernel
theorem dX4_readsNumber_81 : decode cX4_readsNumber 81 = .ok (.putfield 24, 3) := by decide +kernel
theorem dX4_readsNumber_84 : decode cX4_readsNumber 84 = .ok (.iinc 2 1, 3) := by decide +kernel
theorem dX4_readsNumber_87 : decode cX4_readsNumber 87 = .ok (.goto (-83), 3) := by decide +kernel
theorem dX4_readsNumber_90 : decode cX4_readsNumber 90 = .ok (.iload_n 1, 1) := by decide +kernel
theorem dX4_readsNumber_91 : decode cX4_readsNumber 91 = .ok (.ireturn, 1) := by decide +kernel
theorem dX4_next_0 : decode cX4_next 0 = .ok (.aload_n 0, 1) := by decide +kernel
theorem dX4_next_1 : decode cX4_next 1 = .ok (.getfield 24, 3) := by decide +kernel
theorem dX4_next_4 : decode cX4_next 4 = .ok (.aload_n 0, 1) := by decide +kernel
theorem dX4_next_5 : decode cX4_next 5 = .ok (.getfield 15, 3) := by decide +kernel
theorem dX4_next_8 : decode cX4_next 8 = .ok (.if_icmp .ge 15, 3) := by decide +kernel
theorem dX4_next_11 : decode cX4_next 11 = .ok (.aload_n 0, 1) := by decide +kernel
theorem dX4_next_12 : decode cX4_next 12 = .ok (.getfield 9, 3) := by decide +kernel
theorem dX4_next_15 : decode cX4_next 15 = .ok (.aload_n 0, 1) := by decide +kernel
theorem dX4_next_16 : decode cX4_next 16 = .ok (.getfield 24, 3) := by decide +kernel
theorem dX4_next_19 : decode cX4_next 19 = .ok (.iaload, 1) := by decide +kernel
theorem dX4_next_20 : decode cX4_next 20 = .ok (.goto 4, 3) := by decide +kernel
theorem dX4_next_23 : decode cX4_next 23 = .ok (.iconst (-1), 1) := by decide +kernel
theorem dX4_next_24 : decode cX4_next 24 = .ok (.ireturn, 1) := by decide +kernel
theorem dX4_takes_0 : decode cX4_takes 0 = .ok (.aload_n 0, 1) := by decide +kernel
theorem dX4_takes_1 : decode cX4_takes 1 = .ok (.invokevirtual 35, 3) := by decide +kernel
theorem dX4_takes_4 : decode cX4_takes 4 = .ok (.iload_n 1, 1) := by decide +kernel
theorem dX4_takes_5 : decode cX4_takes 5 = .ok (.if_icmp .ne 7, 3) := by decide +kernel
theorem dX4_takes_8 : decode cX4_takes 8 = .ok (.iconst 1, 1) := by decide +kernel
theorem dX4_takes_9 : decode cX4_takes 9 = .ok (.goto 4, 3) := by decide +kernel
theorem dX4_takes_12 : decode cX4_takes 12 = .ok (.iconst 0, 1) := by decide +kernel
theorem dX4_takes_13 : decode cX4_takes 13 = .ok (.istore_n 2, 1) := by decide +kernel
theorem dX4_takes_14 : decode cX4_takes 14 = .ok (.aload_n 0, 1) := by decide +kernel
theorem dX4_takes_15 : decode cX4_takes 15 = .ok (.dup, 1) := by decide +kernel
theorem dX4_takes_16 : decode cX4_takes 16 = .ok (.getfield 24, 3) := by decide +kernel
theorem dX4_takes_19 : decode cX4_takes 19 = .ok (.iload_n 2, 1) := by decide +kernel
theorem dX4_takes_20 : decode cX4_takes 20 = .ok (.ifCond .eq 7, 3) := by decide +kernel
theorem dX4_takes_23 : decode cX4_takes 23 = .ok (.iconst 1, 1) := by decide +kernel
theorem dX4_takes_24 : decode cX4_takes 24 = .ok (.goto 4, 3) := by decide +kernel
theorem dX4_takes_27 : decode cX4_takes 27 = .ok (.iconst 0, 1) := by decide +kernel
theorem dX4_takes_28 : decode cX4_takes 28 = .ok (.iadd, 1) := by decide +kernel
theorem dX4_takes_29 : decode cX4_takes 29 = .ok (.putfield 24, 3) := by decide +kernel
theorem dX4_takes_32 : decode cX4_takes 32 = .ok (.iload_n 2, 1) := by decide +kernel
theorem dX4_takes_33 : decode cX4_takes 33 = .ok (.ireturn, 1) := by decide +kernel
theorem dX5_init_0 : decode cX5_init 0 = .ok (.aload_n 0, 1) := by decide +kernel
theorem dX5_init_1 : decode cX5_init 1 = .ok (.invokespecial 3, 3) := by decide +kernel
theorem dX5_init_4 : decode cX5_init 4 = .ok (.aload_n 0, 1) := by decide +kernel
theorem dX5_init_5 : decode cX5_init 5 = .ok (.bipush 6, 2) := by decide +kernel
theorem dX5_init_7 : decode cX5_init 7 = .ok (.newarray .int, 2) := by decide +kernel
theorem dX5_init_9 : decode cX5_init 9 = .ok (.putfield 9, 3) := by decide +kernel
theorem dX5_init_12 : decode cX5_init 12 = .ok (.aload_n 0, 1) := by decide +kernel
theorem dX5_init_13 : decode cX5_init 13 = .ok (.bipush 64, 2) := by decide +kernel
theorem dX5_init_15 : decode cX5_init 15 = .ok (.newarray .int, 2) := by decide +kernel
theorem dX5_init_17 : decode cX5_init 17 = .ok (.putfield 15, 3) := by decide +kernel
theorem dX5_init_20 : decode cX5_init 20 = .ok (.return_, 1) := by decide +kernel
theorem dX5_longest_0 : decode cX5_longest 0 = .ok (.iconst 0, 1) := by decide +kernel
theorem dX5_longest_1 : decode cX5_longest 1 = .ok (.istore_n 2, 1) := by decide +kernel
theorem dX5_longest_2 : decode cX5_longest 2 = .ok (.iload_n 2, 1) := by decide +kernel
theorem dX5_longest_3 : decode cX5_longest 3 = .ok (.aload_n 1, 1) := by decide +kernel
theorem dX5_longest_4 : decode cX5_longest 4 = .ok (.getfield 18, 3) := by decide +kernel
theorem dX5_longest_7 : decode cX5_longest 7 = .ok (.if_icmp .ge 25, 3) := by decide +kernel
theorem dX5_longest_10 : decode cX5_longest 10 = .ok (.aload_n 0, 1) := by decide +kernel
theorem dX5_longest_11 : decode cX5_longest 11 = .ok (.getfield 9, 3) := by decide +kernel
theorem dX5_longest_14 : decode cX5_longest 14 = .ok (.iload_n 2, 1) := by decide +kernel
theorem dX5_longest_15 : decode cX5_longest 15 = .ok (.aload_n 1, 1) := by decide +kernel
theorem dX5_longest_16 : decode cX5_longest 16 = .ok (.aload_n 1, 1) := by decide +kernel
theorem dX5_longest_17 : decode cX5_longest 17 = .ok (.getfield 24, 3) := by decide +kernel
theorem dX5_longest_20 : decode cX5_longest 20 = .ok (.iload_n 2, 1) := by decide +kernel
theorem dX5_longest_21 : decode cX5_longest 21 = .ok (.aaload, 1) := by decide +kernel
theorem dX5_longest_22 : decode cX5_longest 22 = .ok (.invokestatic 28, 3) := by decide +kernel
theorem dX5_longest_25 : decode cX5_longest 25 = .ok (.iastore, 1) := by decide +kernel
theorem dX5_longest_26 : decode cX5_longest 26 = .ok (.iinc 2 1, 3) := by decide +kernel
theorem dX5_longest_29 : decode cX5_longest 29 = .ok (.goto (-27), 3) := by decide +kernel
theorem dX5_longest_32 : decode cX5_longest 32 = .ok (.iconst 0, 1) := by decide +kernel
theorem dX5_longest_33 : decode cX5_longest 33 = .ok (.istore_n 2, 1) := by decide +kernel
theorem dX5_longest_34 : decode cX5_longest 34 = .ok (.iconst 0, 1) := by decide +kernel
theorem dX5_longest_35 : decode cX5_longest 35 = .ok (.istore_n 3, 1) := by decide +kernel
theorem dX5_longest_36 : decode cX5_longest 36 = .ok (.iload_n 3, 1) := by decide +kernel
theorem dX5_longest_37 : decode cX5_longest 37 = .ok (.aload_n 1, 1) := by decide +kernel
theorem dX5_longest_38 : decode cX5_longest 38 = .ok (.getfield 18, 3) := by decide +kernel
theorem dX5_longest_41 : decode cX5_longest 41 = .ok (.if_icmp .ge 23, 3) := by decide +kernel
theorem dX5_longest_44 : decode cX5_longest 44 = .ok (.iload_n 2, 1) := by decide +kernel
theorem dX5_longest_45 : decode cX5_longest 45 = .ok (.aload_n 0, 1) := by decide +kernel
theorem dX5_longest_46 : decode cX5_longest 46 = .ok (.iload_n 3, 1) := by decide +kernel
theorem dX5_longest_47 : decode cX5_longest 47 = .ok (.aload_n 1, 1) := by decide +kernel
theorem dX5_longest_48 : decode cX5_longest 48 = .ok (.getfield 18, 3) := by decide +kernel
theorem dX5_longest_51 : decode cX5_longest 51 = .ok (.invokevirtual 32, 3) := by decide +kernel
theorem dX5_longest_54 : decode cX5_longest 54 = .ok (.invokestatic 36, 3) := by decide +kernel
theorem dX5_longest_57 : decode cX5_longest 57 = .ok (.istore_n 2, 1) := by decide +kernel
theorem dX5_longest_58 : decode cX5_longest 58 = .ok (.iinc 3 1, 3) := by decide +kernel
theorem dX5_longest_61 : decode cX5_longest 61 = .ok (.goto (-25), 3) := by decide +kernel
theorem dX5_longest_64 : decode cX5_longest 64 = .ok (.iload_n 2, 1) := by decide +kernel
theorem dX5_longest_65 : decode cX5_longest 65 = .ok (.ireturn, 1) := by decide +kernel
theorem dX5_takersOf_0 : decode cX5_takersOf 0 = .ok (.iconst 0, 1) := by decide +kernel
theorem dX5_takersOf_1 : decode cX5_takersOf 1 = .ok (.istore_n 2, 1) := by decide +kernel
theorem dX5_takersOf_2 : decode cX5_takersOf 2 = .ok (.iconst 0, 1) := by decide +kernel
theorem dX5_takersOf_3 : decode cX5_takersOf 3 = .ok (.istore_n 3, 1) := by decide +kernel
theorem dX5_takersOf_4 : decode cX5_takersOf 4 = .ok (.iload_n 3, 1) := by decide +kernel
theorem dX5_takersOf_5 : decode cX5_takersOf 5 = .ok (.aload_n 0, 1) := by decide +kernel
theorem dX5_takersOf_6 : decode cX5_takersOf 6 = .ok (.getfield 18, 3) := by decide +kernel
theorem dX5_takersOf_9 : decode cX5_takersOf 9 = .ok (.if_icmp .ge 36, 3) := by decide +kernel
theorem dX5_takersOf_12 : decode cX5_takersOf 12 = .ok (.iload_n 2, 1) := by decide +kernel
theorem dX5_takersOf_13 : decode cX5_takersOf 13 = .ok (.aload_n 1, 1) := by decide +kernel
theorem dX5_takersOf_14 : decode cX5_takersOf 14 = .ok (.getfield 41, 3) := by decide +kernel
theorem dX5_takersOf_17 : decode cX5_takersOf 17 = .ok (.aload_n 0, 1) := by decide +kernel
theorem dX5_takersOf_18 : decode cX5_takersOf 18 = .ok (.getfield 24, 3) := by decide +kernel
theorem dX5_takersOf_21 : decode cX5_takersOf 21 = .ok (.iload_n 3, 1) := by decide +kernel
theorem dX5_takersOf_22 : decode cX5_takersOf 22 = .ok (.aaload, 1) := by decide +kernel
theorem dX5_takersOf_23 : decode cX5_takersOf 23 = .ok (.invokevirtual 46, 3) := by decide +kernel
theorem dX5_takersOf_26 : decode cX5_takersOf 26 = .ok (.iand, 1) := by decide +kernel
theorem dX5_takersOf_27 : decode cX5_takersOf 27 = .ok (.ifCond .eq 9, 3) := by decide +kernel
theorem dX5_takersOf_30 : decode cX5_takersOf 30 = .ok (.iconst 1, 1) := by decide +kernel
theorem dX5_takersOf_31 : decode cX5_takersOf 31 = .ok (.iload_n 3, 1) := by decide +kernel
theorem dX5_takersOf_32 : decode cX5_takersOf 32 = .ok (.ishl, 1) := by decide +kernel
theorem dX5_takersOf_33 : decode cX5_takersOf 33 = .ok (.goto 4, 3) := by decide +kernel
theorem dX5_takersOf_36 : decode cX5_takersOf 36 = .ok (.iconst 0, 1) := by decide +kernel
theorem dX5_takersOf_37 : decode cX5_takersOf 37 = .ok (.ior, 1) := by decide +kernel
theorem dX5_takersOf_38 : decode cX5_takersOf 38 = .ok (.istore_n 2, 1) := by decide +kernel
theorem dX5_takersOf_39 : decode cX5_takersOf 39 = .ok (.iinc 3 1, 3) := by decide +kernel
theorem dX5_takersOf_42 : decode cX5_takersOf 42 = .ok (.goto (-38), 3) := by decide +kernel
theorem dX5_takersOf_45 : decode cX5_takersOf 45 = .ok (.iload_n 2, 1) := by decide +kernel
theorem dX5_takersOf_46 : decode cX5_takersOf 46 = .ok (.ireturn, 1) := by decide +kernel
theorem dX5_longestFrom_0 : decode cX5_longestFrom 0 = .ok (.aload_n 0, 1) := by decide +kernel
theorem dX5_longestFrom_1 : decode cX5_longestFrom 1 = .ok (.getfield 15, 3) := by decide +kernel
theorem dX5_longestFrom_4 : decode cX5_longestFrom 4 = .ok (.iconst 0, 1) := by decide +kernel
theorem dX5_longestFrom_5 : decode cX5_longestFrom 5 = .ok (.invokestatic 50, 3) := by decide +kernel
theorem dX5_longestFrom_8 : decode cX5_longestFrom 8 = .ok (.aload_n 0, 1) := by decide +kernel
theorem dX5_longestFrom_9 : decode cX5_longestFrom 9 = .ok (.getfield 15, 3) := by decide +kernel
theorem dX5_longestFrom_12 : decode cX5_longestFrom 12 = .ok (.iconst 1, 1) := by decide +kernel
theorem dX5_longestFrom_13 : decode cX5_longestFrom 13 = .ok (.iload_n 1, 1) := by decide +kernel
theorem dX5_longestFrom_14 : decode cX5_longestFrom 14 = .ok (.ishl, 1) := by decide +kernel
theorem dX5_longestFrom_15 : decode cX5_longestFrom 15 = .ok (.iconst 1, 1) := by decide +kernel
theorem dX5_longestFrom_16 : decode cX5_longestFrom 16 = .ok (.iload_n 1, 1) := by decide +kernel
theorem dX5_longestFrom_17 : decode cX5_longestFrom 17 = .ok (.ishl, 1) := by decide +kernel
theorem dX5_longestFrom_18 : decode cX5_longestFrom 18 = .ok (.iastore, 1) := by decide +kernel
theorem dX5_longestFrom_19 : decode cX5_longestFrom 19 = .ok (.iconst 0, 1) := by decide +kernel
theorem dX5_longestFrom_20 : decode cX5_longestFrom 20 = .ok (.istore_n 3, 1) := by decide +kernel
theorem dX5_longestFrom_21 : decode cX5_longestFrom 21 = .ok (.iconst 1, 1) := by decide +kernel
theorem dX5_longestFrom_22 : decode cX5_longestFrom 22 = .ok (.iload_n 1, 1) := by decide +kernel
theorem dX5_longestFrom_23 : decode cX5_longestFrom 23 = .ok (.ishl, 1) := by decide +kernel
theorem dX5_longestFrom_24 : decode cX5_longestFrom 24 = .ok (.istore 4, 2) := by decide +kernel
theorem dX5_longestFrom_26 : decode cX5_longestFrom 26 = .ok (.iload 4, 2) := by decide +kernel
theorem dX5_longestFrom_28 : decode cX5_longestFrom 28 = .ok (.iconst 1, 1) := by decide +kernel
theorem dX5_longestFrom_29 : decode cX5_longestFrom 29 = .ok (.iload_n 2, 1) := by decide +kernel
theorem dX5_longestFrom_30 : decode cX5_longestFrom 30 = .ok (.ishl, 1) := by decide +kernel
theorem dX5_longestFrom_31 : decode cX5_longestFrom 31 = .ok (.if_icmp .ge 86, 3) := by decide +kernel
theorem dX5_longestFrom_34 : decode cX5_longestFrom 34 = .ok (.iload_n 1, 1) := by decide +kernel
theorem dX5_longestFrom_35 : decode cX5_longestFrom 35 = .ok (.istore 5, 2) := by decide +kernel
theorem dX5_longestFrom_37 : decode cX5_longestFrom 37 = .ok (.iload 5, 2) := by decide +kernel
theorem dX5_longestFrom_39 : decode cX5_longestFrom 39 = .ok (.iload_n 2, 1) := by decide +kernel
theorem dX5_longestFrom_40 : decode cX5_longestFrom 40 = .ok (.if_icmp .ge 71, 3) := by decide +kernel
theorem dX5_longestFrom_43 : decode cX5_longestFrom 43 = .ok (.aload_n 0, 1) := by decide +kernel
theorem dX5_longestFrom_44 : decode cX5_longestFrom 44 = .ok (.getfield 15, 3) := by decide +kernel
theorem dX5_longestFrom_47 : decode cX5_longestFrom 47 = .ok (.iload 4, 2) := by decide +kernel
theorem dX5_longestFrom_49 : decode cX5_longestFrom 49 = .ok (.iaload, 1) := by decide +kernel
theorem dX5_longestFrom_50 : decode cX5_longestFrom 50 = .ok (.iload 5, 2) := by decide +kernel
theorem dX5_longestFrom_52 : decode cX5_longestFrom 52 = .ok (.invokestatic 56, 3) := by decide +kernel
theorem dX5_longestFrom_55 : decode cX5_longestFrom 55 = .ok (.ifCond .eq 50, 3) := by decide +kernel
theorem dX5_longestFrom_58 : decode cX5_longestFrom 58 = .ok (.aload_n 0, 1) := by decide +kernel
theorem dX5_longestFrom_59 : decode cX5_longestFrom 59 = .ok (.iload 4, 2) := by decide +kernel
theorem dX5_longestFrom_61 : decode cX5_longestFrom 61 = .ok (.aload_n 0, 1) := by decide +kernel
theorem dX5_longestFrom_62 : decode cX5_longestFrom 62 = .ok (.getfield 9, 3) := by decide +kernel
theorem dX5_longestFrom_65 : decode cX5_longestFrom 65 = .ok (.iload 5, 2) := by decide +kernel
theorem dX5_longestFrom_67 : decode cX5_longestFrom 67 = .ok (.iaload, 1) := by decide +kernel
theorem dX5_longestFrom_68 : decode cX5_longestFrom 68 = .ok (.iload 4, 2) := by decide +kernel
theorem dX5_longestFrom_70 : decode cX5_longestFrom 70 = .ok (.iconst (-1), 1) := by decide +kernel
theorem dX5_longestFrom_71 : decode cX5_longestFrom 71 = .ok (.ixor, 1) := by decide +kernel
theorem dX5_longestFrom_72 : decode cX5_longestFrom 72 = .ok (.iand, 1) := by decide +kernel
theorem dX5_longestFrom_73 : decode cX5_longestFrom 73 = .ok (.iload_n 1, 1) := by decide +kernel
theorem dX5_longestFrom_74 : decode cX5_longestFrom 74 = .ok (.invokevirtual 60, 3) := by decide +kernel
theorem dX5_longestFrom_77 : decode cX5_longestFrom 77 = .ok (.aload_n 0, 1) := by decide +kernel
theorem dX5_longestFrom_78 : decode cX5_longestFrom 78 = .ok (.getfield 9, 3) := by decide +kernel
theorem dX5_longestFrom_81 : decode cX5_longestFrom 81 = .ok (.iload 5, 2) := by decide +kernel
theorem dX5_longestFrom_83 : decode cX5_longestFrom 83 = .ok (.iaload, 1) := by decide +kernel
theorem dX5_longestFrom_84 : decode cX5_longestFrom 84 = .ok (.iload_n 1, 1) := by decide +kernel
theorem dX5_longestFrom_85 : decode cX5_longestFrom 85 = .ok (.invokestatic 56, 3) := by decide +kernel
theorem dX5_longestFrom_88 : decode cX5_longestFrom 88 = .ok (.ifCond .eq 15, 3) := by decide +kernel
theorem dX5_longestFrom_91 : decode cX5_longestFrom 91 = .ok (.iload_n 3, 1) := by decide +kernel
theorem dX5_longestFrom_92 : decode cX5_longestFrom 92 = .ok (.iload 4, 2) := by decide +kernel
theorem dX5_longestFrom_94 : decode cX5_longestFrom 94 = .ok (.invokestatic 64, 3) := by decide +kernel
theorem dX5_longestFrom_97 : decode cX5_longestFrom 97 = .ok (.invokestatic 36, 3) := by decide +kernel
theorem dX5_longestFrom_100 : decode cX5_longestFrom 100 = .ok (.goto 4, 3) := by decide +kernel
theorem dX5_longestFrom_103 : decode cX5_longestFrom 103 = .ok (.iload_n 3, 1) := by decide +kernel
theorem dX5_longestFrom_104 : decode cX5_longestFrom 104 = .ok (.istore_n 3, 1) := by decide +kernel
theorem dX5_longestFrom_105 : decode cX5_longestFrom 105 = .ok (.iinc 5 1, 3) := by decide +kernel
theorem dX5_longestFrom_108 : decode cX5_longestFrom 108 = .ok (.goto (-71), 3) := by decide +kernel
theorem dX5_longestFrom_111 : decode cX5_longestFrom 111 = .ok (.iinc 4 1, 3) := by decide +kernel
theorem dX5_longestFrom_114 : decode cX5_longestFrom 114 = .ok (.goto (-88), 3) := by decide +kernel
theorem dX5_longestFrom_117 : decode cX5_longestFrom 117 = .ok (.iload_n 3, 1) := by decide +kernel
theorem dX5_longestFrom_118 : decode cX5_longestFrom 118 = .ok (.ireturn, 1) := by decide +kernel
theorem dX5_goOn_0 : decode cX5_goOn 0 = .ok (.iload_n 3, 1) := by decide +kernel
theorem dX5_goOn_1 : decode cX5_goOn 1 = .ok (.iconst 1, 1) := by decide +kernel
theorem dX5_goOn_2 : decode cX5_goOn 2 = .ok (.iadd, 1) := by decide +kernel
theorem dX5_goOn_3 : decode cX5_goOn 3 = .ok (.istore 4, 2) := by decide +kernel
theorem dX5_goOn_5 : decode cX5_goOn 5 = .ok (.iload 4, 2) := by decide +kernel
theorem dX5_goOn_7 : decode cX5_goOn 7 = .ok (.bipush 6, 2) := by decide +kernel
theorem dX5_goOn_9 : decode cX5_goOn 9 = .ok (.if_icmp .ge 36, 3) := by decide +kernel
theorem dX5_goOn_12 : decode cX5_goOn 12 = .ok (.iload_n 2, 1) := by decide +kernel
theorem dX5_goOn_13 : decode cX5_goOn 13 = .ok (.iload 4, 2) := by decide +kernel
theorem dX5_goOn_15 : decode cX5_goOn 15 = .ok (.invokestatic 56, 3) := by decide +kernel
theorem dX5_goOn_18 : decode cX5_goOn 18 = .ok (.ifCond .eq 21, 3) := by decide +kernel
theorem dX5_goOn_21 : decode cX5_goOn 21 = .ok (.aload_n 0, 1) := by decide +kernel
theorem dX5_goOn_22 : decode cX5_goOn 22 = .ok (.getfield 15, 3) := by decide +kernel
theorem dX5_goOn_25 : decode cX5_goOn 25 = .ok (.iload_n 1, 1) := by decide +kernel
theorem dX5_goOn_26 : decode cX5_goOn 26 = .ok (.iconst 1, 1) := by decide +kernel
theorem dX5_goOn_27 : decode cX5_goOn 27 = .ok (.iload 4, 2) := by decide +kernel
theorem dX5_goOn_29 : decode cX5_goOn 29 = .ok (.ishl, 1) := by decide +kernel
theorem dX5_goOn_30 : decode cX5_goOn 30 = .ok (.ior, 1) := by decide +kernel
theorem dX5_goOn_31 : decode cX5_goOn 31 = .ok (.dup2, 1) := by decide +kernel
theorem dX5_goOn_32 : decode cX5_goOn 32 = .ok (.iaload, 1) := by decide +kernel
theorem dX5_goOn_33 : decode cX5_goOn 33 = .ok (.iconst 1, 1) := by decide +kernel
theorem dX5_goOn_34 : decode cX5_goOn 34 = .ok (.iload 4, 2) := by decide +kernel
theorem dX5_goOn_36 : decode cX5_goOn 36 = .ok (.ishl, 1) := by decide +kernel
theorem dX5_goOn_37 : decode cX5_goOn 37 = .ok (.ior, 1) := by decide +kernel
theorem dX5_goOn_38 : decode cX5_goOn 38 = .ok (.iastore, 1) := by decide +kernel
theorem dX5_goOn_39 : decode cX5_goOn 39 = .ok (.iinc 4 1, 3) := by decide +kernel
theorem dX5_goOn_42 : decode cX5_goOn 42 = .ok (.goto (-37), 3) := by decide +kernel
theorem dX5_goOn_45 : decode cX5_goOn 45 = .ok (.return_, 1) := by decide +kernel
theorem dX6_init_0 : decode cX6_init 0 = .ok (.aload_n 0, 1) := by decide +kernel
theorem dX6_init_1 : decode cX6_init 1 = .ok (.invokespecial 3, 3) := by decide +kernel
theorem dX6_init_4 : decode cX6_init 4 = .ok (.aload_n 0, 1) := by decide +kernel
theorem dX6_init_5 : decode cX6_init 5 = .ok (.iload_n 1, 1) := by decide +kernel
theorem dX6_init_6 : decode cX6_init 6 = .ok (.iconst 4, 1) := by decide +kernel
theorem dX6_init_7 : decode cX6_init 7 = .ok (.multianewarray 9 2, 4) := by decide +kernel
theorem dX6_init_11 : decode cX6_init 11 = .ok (.putfield 11, 3) := by decide +kernel
theorem dX6_init_14 : decode cX6_init 14 = .ok (.return_, 1) := by decide +kernel
theorem dX6_add_0 : decode cX6_add 0 = .ok (.aload_n 0, 1) := by decide +kernel
theorem dX6_add_1 : decode cX6_add 1 = .ok (.getfield 16, 3) := by decide +kernel
theorem dX6_add_4 : decode cX6_add 4 = .ok (.aload_n 0, 1) := by decide +kernel
theorem dX6_add_5 : decode cX6_add 5 = .ok (.getfield 11, 3) := by decide +kernel
theorem dX6_add_8 : decode cX6_add 8 = .ok (.arraylength, 1) := by decide +kernel
theorem dX6_add_9 : decode cX6_add 9 = .ok (.if_icmp .lt 6, 3) := by decide +kernel
theorem dX6_add_12 : decode cX6_add 12 = .ok (.bipush (-4), 2) := by decide +kernel
theorem dX6_add_14 : decode cX6_add 14 = .ok (.ireturn, 1) := by decide +kernel
theorem dX6_add_15 : decode cX6_add 15 = .ok (.aload_n 0, 1) := by decide +kernel
theorem dX6_add_16 : decode cX6_add 16 = .ok (.getfield 11, 3) := by decide +kernel
theorem dX6_add_19 : decode cX6_add 19 = .ok (.aload_n 0, 1) := by decide +kernel
theorem dX6_add_20 : decode cX6_add 20 = .ok (.getfield 16, 3) := by decide +kernel
theorem dX6_add_23 : decode cX6_add 23 = .ok (.aaload, 1) := by decide +kernel
theorem dX6_add_24 : decode cX6_add 24 = .ok (.astore 5, 2) := by decide +kernel
theorem dX6_add_26 : decode cX6_add 26 = .ok (.aload 5, 2) := by decide +kernel
theorem dX6_add_28 : decode cX6_add 28 = .ok (.iconst 0, 1) := by decide +kernel
theorem dX6_add_29 : decode cX6_add 29 = .ok (.iload_n 1, 1) := by decide +kernel
theorem dX6_add_30 : decode cX6_add 30 = .ok (.iastore, 1) := by decide +kernel
theorem dX6_add_31 : decode cX6_add 31 = .ok (.aload 5, 2) := by decide +kernel
theorem dX6_add_33 : decode cX6_add 33 = .ok (.iconst 1, 1) := by decide +kernel
theorem dX6_add_34 : decode cX6_add 34 = .ok (.iload_n 2, 1) := by decide +kernel
theorem dX6_add_35 : decode cX6_add 35 = .ok (.iastore, 1) := by decide +kernel
theorem dX6_add_36 : decode cX6_add 36 = .ok (.aload 5, 2) := by decide +kernel
theorem dX6_add_38 : decode cX6_add 38 = .ok (.iconst 2, 1) := by decide +kernel
theorem dX6_add_39 : decode cX6_add 39 = .ok (.iload_n 3, 1) := by decide +kernel
theorem dX6_add_40 : decode cX6_add 40 = .ok (.iastore, 1) := by decide +kernel
theorem dX6_add_41 : decode cX6_add 41 = .ok (.aload 5, 2) := by decide +kernel
theorem dX6_add_43 : decode cX6_add 43 = .ok (.iconst 3, 1) := by decide +kernel
theorem dX6_add_44 : decode cX6_add 44 = .ok (.iload 4, 2) := by decide +kernel
theorem dX6_add_46 : decode cX6_add 46 = .ok (.iastore, 1) := by decide +kernel
theorem dX6_add_47 : decode cX6_add 47 = .ok (.aload_n 0, 1) := by decide +kernel
theorem dX6_add_48 : decode cX6_add 48 = .ok (.dup, 1) := by decide +kernel
theorem dX6_add_49 : decode cX6_add 49 = .ok (.getfield 16, 3) := by decide +kernel
theorem dX6_add_52 : decode cX6_add 52 = .ok (.iconst 1, 1) := by decide +kernel
theorem dX6_add_53 : decode cX6_add 53 = .ok (.iadd, 1) := by decide +kernel
theorem dX6_add_54 : decode cX6_add 54 = .ok (.putfield 16, 3) := by decide +kernel
theorem dX6_add_57 : decode cX6_add 57 = .ok (.aload_n 0, 1) := by decide +kernel
theorem dX6_add_58 : decode cX6_add 58 = .ok (.getfield 16, 3) := by decide +kernel
theorem dX6_add_61 : decode cX6_add 61 = .ok (.ireturn, 1) := by decide +kernel
theorem dX6_become_0 : decode cX6_become 0 = .ok (.aload_n 0, 1) := by decide +kernel
theorem dX6_become_1 : decode cX6_become 1 = .ok (.aload_n 1, 1) := by decide +kernel
theorem dX6_become_2 : decode cX6_become 2 = .ok (.getfield 16, 3) := by decide +kernel
theorem dX6_become_5 : decode cX6_become 5 = .ok (.aload_n 0, 1) := by decide +kernel
theorem dX6_become_6 : decode cX6_become 6 = .ok (.getfield 11, 3) := by decide +kernel
theorem dX6_become_9 : decode cX6_become 9 = .ok (.arraylength, 1) := by decide +kernel
theorem dX6_become_10 : decode cX6_become 10 = .ok (.invokestatic 20, 3) := by decide +kernel
theorem dX6_become_13 : decode cX6_become 13 = .ok (.putfield 16, 3) := by decide +kernel
theorem dX6_become_16 : decode cX6_become 16 = .ok (.iconst 0, 1) := by decide +kernel
theorem dX6_become_17 : decode cX6_become 17 = .ok (.istore_n 2, 1) := by decide +kernel
theorem dX6_become_18 : decode cX6_become 18 = .ok (.iload_n 2, 1) := by decide +kernel
theorem dX6_become_19 : decode cX6_become 19 = .ok (.aload_n 0, 1) := by decide +kernel
theorem dX6_become_20 : decode cX6_become 20 = .ok (.getfield 16, 3) := by decide +kernel
theorem dX6_become_23 : decode cX6_become 23 = .ok (.if_icmp .ge 27, 3) := by decide +kernel
theorem dX6_become_26 : decode cX6_become 26 = .ok (.aload_n 1, 1) := by decide +kernel
theorem dX6_become_27 : decode cX6_become 27 = .ok (.getfield 11, 3) := by decide +kernel
theorem dX6_become_30 : decode cX6_become 30 = .ok (.iload_n 2, 1) := by decide +kernel
theorem dX6_become_31 : decode cX6_become 31 = .ok (.aaload, 1) := by decide +kernel
theorem dX6_become_32 : decode cX6_become 32 = .ok (.iconst 0, 1) := by decide +kernel
theorem dX6_become_33 : decode cX6_become 33 = .ok (.aload_n 0, 1) := by decide +kernel
theorem dX6_become_34 : decode cX6_become 34 = .ok (.getfield 11, 3) := by decide +kernel
theorem dX6_become_37 : decode cX6_become 37 = .ok (.iload_n 2, 1) := by decide +kernel
theorem dX6_become_38 : decode cX6_become 38 = .ok (.aaload, 1) := by decide +kernel
theorem dX6_become_39 : decode cX6_become 39 = .ok (.iconst 0, 1) := by decide +kernel
theorem dX6_become_40 : decode cX6_become 40 = .ok (.iconst 4, 1) := by decide +kernel
theorem dX6_become_41 : decode cX6_become 41 = .ok (.invokestatic 26, 3) := by decide +kernel
theorem dX6_become_44 : decode cX6_become 44 = .ok (.iinc 2 1, 3) := by decide +kernel
theorem dX6_become_47 : decode cX6_become 47 = .ok (.goto (-29), 3) := by decide +kernel
theorem dX6_become_50 : decode cX6_become 50 = .ok (.return_, 1) := by decide +kernel
theorem dX7_init_0 : decode cX7_init 0 = .ok (.aload_n 0, 1) := by decide +kernel
theorem dX7_init_1 : decode cX7_init 1 = .ok (.invokespecial 3, 3) := by decide +kernel
theorem dX7_init_4 : decode cX7_init 4 = .ok (.aload_n 0, 1) := by decide +kernel
theorem dX7_init_5 : decode cX7_init 5 = .ok (.bipush 13, 2) := by decide +kernel
theorem dX7_init_7 : decode cX7_init 7 = .ok (.newarray .int, 2) := by decide +kernel
theorem dX7_init_9 : decode cX7_init 9 = .ok (.putfield 9, 3) := by decide +kernel
theorem dX7_init_12 : decode cX7_init 12 = .ok (.aload_n 0, 1) := by decide +kernel
theorem dX7_init_13 : decode cX7_init 13 = .ok (.bipush 13, 2) := by decide +kernel
theorem dX7_init_15 : decode cX7_init 15 = .ok (.newarray .int, 2) := by decide +kernel
theorem dX7_init_17 : decode cX7_init 17 = .ok (.putfield 15, 3) := by decide +kernel
theorem dX7_init_20 : decode cX7_init 20 = .ok (.return_, 1) := by decide +kernel
theorem dX7_gather_0 : decode cX7_gather 0 = .ok (.aload_n 0, 1) := by decide +kernel
theorem dX7_gather_1 : decode cX7_gather 1 = .ok (.getfield 9, 3) := by decide +kernel
theorem dX7_gather_4 : decode cX7_gather 4 = .ok (.iconst 0, 1) := by decide +kernel
theorem dX7_gather_5 : decode cX7_gather 5 = .ok (.invokestatic 18, 3) := by decide +kernel
theorem dX7_gather_8 : decode cX7_gather 8 = .ok (.aload_n 0, 1) := by decide +kernel
theorem dX7_gather_9 : decode cX7_gather 9 = .ok (.getfield 15, 3) := by decide +kernel
theorem dX7_gather_12 : decode cX7_gather 12 = .ok (.iconst 0, 1) := by decide +kernel
theorem dX7_gather_13 : decode cX7_gather 13 = .ok (.invokestatic 18, 3) := by decide +kernel
theorem dX7_gather_16 : decode cX7_gather 16 = .ok (.aload_n 0, 1) := by decide +kernel
theorem dX7_gather_17 : decode cX7_gather 17 = .ok (.iconst 0, 1) := by decide +kernel
theorem dX7_gather_18 : decode cX7_gather 18 = .ok (.putfield 24, 3) := by decide +kernel
theorem dX7_gather_21 : decode cX7_gather 21 = .ok (.iconst 0, 1) := by decide +kernel
theorem dX7_gather_22 : decode cX7_gather 22 = .ok (.istore_n 3, 1) := by decide +kernel
theorem dX7_gather_23 : decode cX7_gather 23 = .ok (.iload_n 3, 1) := by decide +kernel
theorem dX7_gather_24 : decode cX7_gather 24 = .ok (.aload_n 1, 1) := by decide +kernel
theorem dX7_gather_25 : decode cX7_gather 25 = .ok (.getfield 28, 3) := by decide +kernel
theorem dX7_gather_28 : decode cX7_gather 28 = .ok (.if_icmp .ge 88, 3) := by decide +kernel
theorem dX7_gather_31 : decode cX7_gather 31 = .ok (.aload_n 1, 1) := by decide +kernel
theorem dX7_gather_32 : decode cX7_gather 32 = .ok (.getfield 33, 3) := by decide +kernel
theorem dX7_gather_35 : decode cX7_gather 35 = .ok (.iload_n 3, 1) := by decide +kernel
theorem dX7_gather_36 : decode cX7_gather 36 = .ok (.aaload, 1) := by decide +kernel
theorem dX7_gather_37 : decode cX7_gather 37 = .ok (.astore 4, 2) := by decide +kernel
theorem dX7_gather_39 : decode cX7_gather 39 = .ok (.aload 4, 2) := by decide +kernel
theorem dX7_gather_41 : decode cX7_gather 41 = .ok (.iconst 0, 1) := by decide +kernel
theorem dX7_gather_42 : decode cX7_gather 42 = .ok (.iaload, 1) := by decide +kernel
theorem dX7_gather_43 : decode cX7_gather 43 = .ok (.iload_n 2, 1) := by decide +kernel
theorem dX7_gather_44 : decode cX7_gather 44 = .ok (.if_icmp .ne 66, 3) := by decide +kernel
theorem dX7_gather_47 : decode cX7_gather 47 = .ok (.aload 4, 2) := by decide +kernel
theorem dX7_gather_49 : decode cX7_gather 49 = .ok (.iconst 1, 1) := by decide +kernel
theorem dX7_gather_50 : decode cX7_gather 50 = .ok (.iaload, 1) := by decide +kernel
theorem dX7_gather_51 : decode cX7_gather 51 = .ok (.bipush 12, 2) := by decide +kernel
theorem dX7_gather_53 : decode cX7_gather 53 = .ok (.invokestatic 37, 3) := by decide +kernel
theorem dX7_gather_56 : decode cX7_gather 56 = .ok (.ifCond .eq 54, 3) := by decide +kernel
theorem dX7_gather_59 : decode cX7_gather 59 = .ok (.aload 4, 2) := by decide +kernel
theorem dX7_gather_61 : decode cX7_gather 61 = .ok (.iconst 3, 1) := by decide +kernel
theorem dX7_gather_62 : decode cX7_gather 62 = .ok (.iaload, 1) := by decide +kernel
theorem dX7_gather_63 : decode cX7_gather 63 = .ok (.ifCond .eq 10, 3) := by decide +kernel
theorem dX7_gather_66 : decode cX7_gather 66 = .ok (.aload_n 0, 1) := by decide +kernel
theorem dX7_gather_67 : decode cX7_gather 67 = .ok (.getfield 9, 3) := by decide +kernel
theorem dX7_gather_70 : decode cX7_gather 70 = .ok (.goto 7, 3) := by decide +kernel
theorem dX7_gather_73 : decode cX7_gather 73 = .ok (.aload_n 0, 1) := by decide +kernel
theorem dX7_gather_74 : decode cX7_gather 74 = .ok (.getfield 15, 3) := by decide +kernel
theorem dX7_gather_77 : decode cX7_gather 77 = .ok (.astore 5, 2) := by decide +kernel
theorem dX7_gather_79 : decode cX7_gather 79 = .ok (.aload 5, 2) := by decide +kernel
theorem dX7_gather_81 : decode cX7_gather 81 = .ok (.aload 4, 2) := by decide +kernel
theorem dX7_gather_83 : decode cX7_gather 83 = .ok (.iconst 1, 1) := by decide +kernel
theorem dX7_gather_84 : decode cX7_gather 84 = .ok (.iaload, 1) := by decide +kernel
theorem dX7_gather_85 : decode cX7_gather 85 = .ok (.dup2, 1) := by decide +kernel
theorem dX7_gather_86 : decode cX7_gather 86 = .ok (.iaload, 1) := by decide +kernel
theorem dX7_gather_87 : decode cX7_gather 87 = .ok (.iconst 1, 1) := by decide +kernel
theorem dX7_gather_88 : decode cX7_gather 88 = .ok (.aload 4, 2) := by decide +kernel
theorem dX7_gather_90 : decode cX7_gather 90 = .ok (.iconst 2, 1) := by decide +kernel
theorem dX7_gather_91 : decode cX7_gather 91 = .ok (.iaload, 1) := by decide +kernel
theorem dX7_gather_92 : decode cX7_gather 92 = .ok (.ishl, 1) := by decide +kernel
theorem dX7_gather_93 : decode cX7_gather 93 = .ok (.ior, 1) := by decide +kernel
theorem dX7_gather_94 : decode cX7_gather 94 = .ok (.iastore, 1) := by decide +kernel
theorem dX7_gather_95 : decode cX7_gather 95 = .ok (.aload_n 0, 1) := by decide +kernel
theorem dX7_gather_96 : decode cX7_gather 96 = .ok (.aload_n 0, 1) := by decide +kernel
theorem dX7_gather_97 : decode cX7_gather 97 = .ok (.getfield 24, 3) := by decide +kernel
theorem dX7_gather_100 : decode cX7_gather 100 = .ok (.aload 4, 2) := by decide +kernel
theorem dX7_gather_102 : decode cX7_gather 102 = .ok (.iconst 1, 1) := by decide +kernel
theorem dX7_gather_103 : decode cX7_gather 103 = .ok (.iaload, 1) := by decide +kernel
theorem dX7_gather_104 : decode cX7_gather 104 = .ok (.invokestatic 41, 3) := by decide +kernel
theorem dX7_gather_107 : decode cX7_gather 107 = .ok (.putfield 24, 3) := by decide +kernel
theorem dX7_gather_110 : decode cX7_gather 110 = .ok (.iinc 3 1, 3) := by decide +kernel
theorem dX7_gather_113 : decode cX7_gather 113 = .ok (.goto (-90), 3) := by decide +kernel
theorem dX7_gather_116 : decode cX7_gather 116 = .ok (.return_, 1) := by decide +kernel
theorem dX7_fits_0 : decode cX7_fits 0 = .ok (.iload_n 2, 1) := by decide +kernel
theorem dX7_fits_1 : decode cX7_fits 1 = .ok (.istore 4, 2) := by decide +kernel
theorem dX7_fits_3 : decode cX7_fits 3 = .ok (.iconst 0, 1) := by decide +kernel
theorem dX7_fits_4 : decode cX7_fits 4 = .ok (.istore 5, 2) := by decide +kernel
theorem dX7_fits_6 : decode cX7_fits 6 = .ok (.iload 5, 2) := by decide +kernel
theorem dX7_fits_8 : decode cX7_fits 8 = .ok (.aload_n 0, 1) := by decide +kernel
theorem dX7_fits_9 : decode cX7_fits 9 = .ok (.getfield 24, 3) := by decide +kernel
theorem dX7_fits_12 : decode cX7_fits 12 = .ok (.if_icmp .gt 56, 3) := by decide +kernel
theorem dX7_fits_15 : decode cX7_fits 15 = .ok (.aload_n 0, 1) := by decide +kernel
theorem dX7_fits_16 : decode cX7_fits 16 = .ok (.getfield 9, 3) := by decide +kernel
theorem dX7_fits_19 : decode cX7_fits 19 = .ok (.iload 5, 2) := by decide +kernel
theorem dX7_fits_21 : decode cX7_fits 21 = .ok (.iaload, 1) := by decide +kernel
theorem dX7_fits_22 : decode cX7_fits 22 = .ok (.iload 4, 2) := by decide +kernel
theorem dX7_fits_24 : decode cX7_fits 24 = .ok (.iconst (-1), 1) := by decide +kernel
theorem dX7_fits_25 : decode cX7_fits 25 = .ok (.ixor, 1) := by decide +kernel
theorem dX7_fits_26 : decode cX7_fits 26 = .ok (.iand, 1) := by decide +kernel
theorem dX7_fits_27 : decode cX7_fits 27 = .ok (.ifCond .ne 16, 3) := by decide +kernel
theorem dX7_fits_30 : decode cX7_fits 30 = .ok (.aload_n 0, 1) := by decide +kernel
theorem dX7_fits_31 : decode cX7_fits 31 = .ok (.getfield 15, 3) := by decide +kernel
theorem dX7_fits_34 : decode cX7_fits 34 = .ok (.iload 5, 2) := by decide +kernel
theorem dX7_fits_36 : decode cX7_fits 36 = .ok (.iaload, 1) := by decide +kernel
theorem dX7_fits_37 : decode cX7_fits 37 = .ok (.iload 4, 2) := by decide +kernel
theorem dX7_fits_39 : decode cX7_fits 39 = .ok (.iand, 1) := by decide +kernel
theorem dX7_fits_40 : decode cX7_fits 40 = .ok (.ifCond .eq 5, 3) := by decide +kernel
theorem dX7_fits_43 : decode cX7_fits 43 = .ok (.iconst 0, 1) := by decide +kernel
theorem dX7_fits_44 : decode cX7_fits 44 = .ok (.ireturn, 1) := by decide +kernel
theorem dX7_fits_45 : decode cX7_fits 45 = .ok (.iload 4, 2) := by decide +kernel
theorem dX7_fits_47 : decode cX7_fits 47 = .ok (.aload_n 1, 1) := by decide +kernel
theorem dX7_fits_48 : decode cX7_fits 48 = .ok (.iload 4, 2) := by decide +kernel
theorem dX7_fits_50 : decode cX7_fits 50 = .ok (.iload_n 3, 1) := by decide +kernel
theorem dX7_fits_51 : decode cX7_fits 51 = .ok (.iload 5, 2) := by decide +kernel
theorem dX7_fits_53 : decode cX7_fits 53 = .ok (.iadd, 1) := by decide +kernel
theorem dX7_fits_54 : decode cX7_fits 54 = .ok (.invokevirtual 47, 3) := by decide +kernel
theorem dX7_fits_57 : decode cX7_fits 57 = .ok (.invokestatic 52, 3) := by decide +kernel
theorem dX7_fits_60 : decode cX7_fits 60 = .ok (.istore 4, 2) := by decide +kernel
theorem dX7_fits_62 : decode cX7_fits 62 = .ok (.iinc 5 1, 3) := by decide +kernel
theorem dX7_fits_65 : decode cX7_fits 65 = .ok (.goto (-59), 3) := by decide +kernel
theorem dX7_fits_68 : decode cX7_fits 68 = .ok (.iconst 1, 1) := by decide +kernel
theorem dX7_fits_69 : decode cX7_fits 69 = .ok (.ireturn, 1) := by decide +kernel
theorem dX8_init_0 : decode cX8_init 0 = .ok (.aload_n 0, 1) := by decide +kernel
theorem dX8_init_1 : decode cX8_init 1 = .ok (.invokespecial 3, 3) := by decide +kernel
theorem dX8_init_4 : decode cX8_init 4 = .ok (.aload_n 0, 1) := by decide +kernel
theorem dX8_init_5 : decode cX8_init 5 = .ok (.bipush 20, 2) := by decide +kernel
theorem dX8_init_7 : decode cX8_init 7 = .ok (.newarray .int, 2) := by decide +kernel
theorem dX8_init_9 : decode cX8_init 9 = .ok (.putfield 9, 3) := by decide +kernel
theorem dX8_init_12 : decode cX8_init 12 = .ok (.return_, 1) := by decide +kernel
theorem dX8_plays_0 : decode cX8_plays 0 = .ok (.aload_n 0, 1) := by decide +kernel
theorem dX8_plays_1 : decode cX8_plays 1 = .ok (.iconst 0, 1) := by decide +kernel
theorem dX8_plays_2 : decode cX8_plays 2 = .ok (.putfield 15, 3) := by decide +kernel
theorem dX8_plays_5 : decode cX8_plays 5 = .ok (.aload_n 0, 1) := by decide +kernel
theorem dX8_plays_6 : decode cX8_plays 6 = .ok (.aload_n 1, 1) := by decide +kernel
theorem dX8_plays_7 : decode cX8_plays 7 = .ok (.iload_n 2, 1) := by decide +kernel
theorem dX8_plays_8 : decode cX8_plays 8 = .ok (.iload_n 3, 1) := by decide +kernel
theorem dX8_plays_9 : decode cX8_plays 9 = .ok (.iconst 0, 1) := by decide +kernel
theorem dX8_plays_10 : decode cX8_plays 10 = .ok (.invokevirtual 19, 3) := by decide +kernel
theorem dX8_plays_13 : decode cX8_plays 13 = .ok (.ireturn, 1) := by decide +kernel
theorem dX8_own_0 : decode cX8_own 0 = .ok (.aload_n 0, 1) := by decide +kernel
theorem dX8_own_1 : decode cX8_own 1 = .ok (.aload_n 1, 1) := by decide +kernel
theorem dX8_own_2 : decode cX8_own 2 = .ok (.aload_n 1, 1) := by decide +kernel
theorem dX8_own_3 : decode cX8_own 3 = .ok (.getfield 23, 3) := by decide +kernel
theorem dX8_own_6 : decode cX8_own 6 = .ok (.iload_n 2, 1) := by decide +kernel
theorem dX8_own_7 : decode cX8_own 7 = .ok (.iload_n 3, 1) := by decide +kernel
theorem dX8_own_8 : decode cX8_own 8 = .ok (.iload 4, 2) := by decide +kernel
theorem dX8_own_10 : decode cX8_own 10 = .ok (.invokevirtual 28, 3) := by decide +kernel
theorem dX8_own_13 : decode cX8_own 13 = .ok (.ireturn, 1) := by decide +kernel
theorem dX8_runs_0 : decode cX8_runs 0 = .ok (.iload_n 2, 1) := by decide +kernel
theorem dX8_runs_1 : decode cX8_runs 1 = .ok (.iload_n 3, 1) := by decide +kernel
theorem dX8_runs_2 : decode cX8_runs 2 = .ok (.invokestatic 32, 3) := by decide +kernel
theorem dX8_runs_5 : decode cX8_runs 5 = .ok (.istore 6, 2) := by decide +kernel
theorem dX8_runs_7 : decode cX8_runs 7 = .ok (.iload 6, 2) := by decide +kernel
theorem dX8_runs_9 : decode cX8_runs 9 = .ok (.ifCond .eq 10, 3) := by decide +kernel
theorem dX8_runs_12 : decode cX8_runs 12 = .ok (.iload 5, 2) := by decide +kernel
theorem dX8_runs_14 : decode cX8_runs 14 = .ok (.bipush 40, 2) := by decide +kernel
theorem dX8_runs_16 : decode cX8_runs 16 = .ok (.if_icmp .le 5, 3) := by decide +kernel
theorem dX8_runs_19 : decode cX8_runs 19 = .ok (.iconst 0, 1) := by decide +kernel
theorem dX8_runs_20 : decode cX8_runs 20 = .ok (.ireturn, 1) := by decide +kernel
theorem dX8_runs_21 : decode cX8_runs 21 = .ok (.aload_n 0, 1) := by decide +kernel
theorem dX8_runs_22 : decode cX8_runs 22 = .ok (.iload 6, 2) := by decide +kernel
theorem dX8_runs_24 : decode cX8_runs 24 = .ok (.invokevirtual 36, 3) := by decide +kernel
theorem dX8_runs_27 : decode cX8_runs 27 = .ok (.getstatic 40, 3) := by decide +kernel
theorem dX8_runs_30 : decode cX8_runs 30 = .ok (.iload 6, 2) := by decide +kernel
theorem dX8_runs_32 : decode cX8_runs 32 = .ok (.bipush 10, 2) := by decide +kernel
theorem dX8_runs_34 : decode cX8_runs 34 = .ok (.idiv, 1) := by decide +kernel
theorem dX8_runs_35 : decode cX8_runs 35 = .ok (.iconst 1, 1) := by decide +kernel
theorem dX8_runs_36 : decode cX8_runs 36 = .ok (.isub, 1) := by decide +kernel
theorem dX8_runs_37 : decode cX8_runs 37 = .ok (.iaload, 1) := by decide +kernel
theorem dX8_runs_38 : decode cX8_runs 38 = .ok (.istore 7, 2) := by decide +kernel
theorem dX8_runs_40 : decode cX8_runs 40 = .ok (.iload 5, 2) := by decide +kernel
theorem dX8_runs_42 : decode cX8_runs 42 = .ok (.iconst 1, 1) := by decide +kernel
theorem dX8_runs_43 : decode cX8_runs 43 = .ok (.iadd, 1) := by decide +kernel
theorem dX8_runs_44 : decode cX8_runs 44 = .ok (.istore 8, 2) := by decide +kernel
theorem dX8_runs_46 : decode cX8_runs 46 = .ok (.iload 6, 2) := by decide +kernel
theorem dX8_runs_48 : decode cX8_runs 48 = .ok (.lookupswitch 281 #[(10, 100), (11, 108), (12, 124), (20, 137), (30, 153), (40, 168), (50, 191), (51, 205), (60, 220), (70, 238), (71, 263)], 100) := by decide +kernel
theorem dX8_runs_148 : decode cX8_runs 148 = .ok (.iload 4, 2) := by decide +kernel
theorem dX8_runs_150 : decode cX8_runs 150 = .ok (.aload_n 1, 1) := by decide +kernel
theorem dX8_runs_151 : decode cX8_runs 151 = .ok (.getfield 43, 3) := by decide +kernel
theorem dX8_runs_154 : decode cX8_runs 154 = .ok (.iadd, 1) := by decide +kernel
theorem dX8_runs_155 : decode cX8_runs 155 = .ok (.ireturn, 1) := by decide +kernel
theorem dX8_runs_156 : decode cX8_runs 156 = .ok (.aload_n 0, 1) := by decide +kernel
theorem dX8_runs_157 : decode cX8_runs 157 = .ok (.aload_n 1, 1) := by decide +kernel
theorem dX8_runs_158 : decode cX8_runs 158 = .ok (.iconst 0, 1) := by decide +kernel
theorem dX8_runs_159 : decode cX8_runs 159 = .ok (.iload 4, 2) := by decide +kernel
theorem dX8_runs_161 : decode cX8_runs 161 = .ok (.iload 8, 2) := by decide +kernel
theorem dX8_runs_163 : decode cX8_runs 163 = .ok (.invokevirtual 19, 3) := by decide +kernel
theorem dX8_runs_166 : decode cX8_runs 166 = .ok (.aload_n 1, 1) := by decide +kernel
theorem dX8_runs_167 : decode cX8_runs 167 = .ok (.getfield 46, 3) := by decide +kernel
theorem dX8_runs_170 : decode cX8_runs 170 = .ok (.isub, 1) := by decide +kernel
theorem dX8_runs_171 : decode cX8_runs 171 = .ok (.ireturn, 1) := by decide +kernel
theorem dX8_runs_172 : decode cX8_runs 172 = .ok (.aload_n 0, 1) := by decide +kernel
theorem dX8_runs_173 : decode cX8_runs 173 = .ok (.aload_n 1, 1) := by decide +kernel
theorem dX8_runs_174 : decode cX8_runs 174 = .ok (.iconst 1, 1) := by decide +kernel
theorem dX8_runs_175 : decode cX8_runs 175 = .ok (.iload 4, 2) := by decide +kernel
theorem dX8_runs_177 : decode cX8_runs 177 = .ok (.iload 8, 2) := by decide +kernel
theorem dX8_runs_179 : decode cX8_runs 179 = .ok (.invokevirtual 19, 3) := by decide +kernel
theorem dX8_runs_182 : decode cX8_runs 182 = .ok (.iconst 2, 1) := by decide +kernel
theorem dX8_runs_183 : decode cX8_runs 183 = .ok (.imul, 1) := by decide +kernel
theorem dX8_runs_184 : decode cX8_runs 184 = .ok (.ireturn, 1) := by decide +kernel
theorem dX8_runs_185 : decode cX8_runs 185 = .ok (.aload_n 0, 1) := by decide +kernel
theorem dX8_runs_186 : decode cX8_runs 186 = .ok (.aload_n 1, 1) := by decide +kernel
theorem dX8_runs_187 : decode cX8_runs 187 = .ok (.iload 7, 2) := by decide +kernel
theorem dX8_runs_189 : decode cX8_runs 189 = .ok (.iconst 1, 1) := by decide +kernel
theorem dX8_runs_190 : decode cX8_runs 190 = .ok (.iload 4, 2) := by decide +kernel
theorem dX8_runs_192 : decode cX8_runs 192 = .ok (.iload 8, 2) := by decide +kernel
theorem dX8_runs_194 : decode cX8_runs 194 = .ok (.invokevirtual 28, 3) := by decide +kernel
theorem dX8_runs_197 : decode cX8_runs 197 = .ok (.bipush 6, 2) := by decide +kernel
theorem dX8_runs_199 : decode cX8_runs 199 = .ok (.ixor, 1) := by decide +kernel
theorem dX8_runs_200 : decode cX8_runs 200 = .ok (.ireturn, 1) := by decide +kernel
theorem dX8_runs_201 : decode cX8_runs 201 = .ok (.aload_n 0, 1) := by decide +kernel
theorem dX8_runs_202 : decode cX8_runs 202 = .ok (.aload_n 1, 1) := by decide +kernel
theorem dX8_runs_203 : decode cX8_runs 203 = .ok (.iload 7, 2) := by decide +kernel
theorem dX8_runs_205 : decode cX8_runs 205 = .ok (.iconst 0, 1) := by decide +kernel
theorem dX8_runs_206 : decode cX8_runs 206 = .ok (.iload 4, 2) := by decide +kernel
theorem dX8_runs_208 : decode cX8_runs 208 = .ok (.iconst 3, 1) := by decide +kernel
theorem dX8_runs_209 : decode cX8_runs 209 = .ok (.imul, 1) := by decide +kernel
theorem dX8_runs_210 : decode cX8_runs 210 = .ok (.iload 8, 2) := by decide +kernel
theorem dX8_runs_212 : decode cX8_runs 212 = .ok (.invokevirtual 28, 3) := by decide +kernel
theorem dX8_runs_215 : decode cX8_runs 215 = .ok (.ireturn, 1) := by decide +kernel
theorem dX8_runs_216 : decode cX8_runs 216 = .ok (.aload_n 0, 1) := by decide +kernel
theorem dX8_runs_217 : decode cX8_runs 217 = .ok (.aload_n 1, 1) := by decide +kernel
theorem dX8_runs_218 : decode cX8_runs 218 = .ok (.iload 7, 2) := by decide +kernel
theorem dX8_runs_220 : decode cX8_runs 220 = .ok (.iconst 2, 1) := by decide +kernel
theorem dX8_runs_221 : decode cX8_runs 221 = .ok (.iload 4, 2) := by decide +kernel
theorem dX8_runs_223 : decode cX8_runs 223 = .ok (.iload 8, 2) := by decide +kernel
theorem dX8_runs_225 : decode cX8_runs 225 = .ok (.invokevirtual 28, 3) := by decide +kernel
theorem dX8_runs_228 : decode cX8_runs 228 = .ok (.aload_n 0, 1) := by decide +kernel
theorem dX8_runs_229 : decode cX8_runs 229 = .ok (.aload_n 1, 1) := by decide +kernel
theorem dX8_runs_230 : decode cX8_runs 230 = .ok (.iconst 1, 1) := by decide +kernel
theorem dX8_runs_231 : decode cX8_runs 231 = .ok (.iconst 1, 1) := by decide +kernel
theorem dX8_runs_232 : decode cX8_runs 232 = .ok (.iload 8, 2) := by decide +kernel
theorem dX8_runs_234 : decode cX8_runs 234 = .ok (.invokevirtual 19, 3) := by decide +kernel
theorem dX8_runs_237 : decode cX8_runs 237 = .ok (.iadd, 1) := by decide +kernel
theorem dX8_runs_238 : decode cX8_runs 238 = .ok (.ireturn, 1) := by decide +kernel
theorem dX8_runs_239 : decode cX8_runs 239 = .ok (.aload_n 0, 1) := by decide +kernel
theorem dX8_runs_240 : decode cX8_runs 240 = .ok (.aload_n 1, 1) := by decide +kernel
theorem dX8_runs_241 : decode cX8_runs 241 = .ok (.iload 7, 2) := by decide +kernel
theorem dX8_runs_243 : decode cX8_runs 243 = .ok (.iconst 0, 1) := by decide +kernel
theorem dX8_runs_244 : decode cX8_runs 244 = .ok (.iload 4, 2) := by decide +kernel
theorem dX8_runs_246 : decode cX8_runs 246 = .ok (.iload 8, 2) := by decide +kernel
theorem dX8_runs_248 : decode cX8_runs 248 = .ok (.invokevirtual 28, 3) := by decide +kernel
theorem dX8_runs_251 : decode cX8_runs 251 = .ok (.ineg, 1) := by decide +kernel
theorem dX8_runs_252 : decode cX8_runs 252 = .ok (.ireturn, 1) := by decide +kernel
theorem dX8_runs_253 : decode cX8_runs 253 = .ok (.aload_n 0, 1) := by decide +kernel
theorem dX8_runs_254 : decode cX8_runs 254 = .ok (.aload_n 1, 1) := by decide +kernel
theorem dX8_runs_255 : decode cX8_runs 255 = .ok (.iload 7, 2) := by decide +kernel
theorem dX8_runs_257 : decode cX8_runs 257 = .ok (.iconst 1, 1) := by decide +kernel
theorem dX8_runs_258 : decode cX8_runs 258 = .ok (.iload 4, 2) := by decide +kernel
theorem dX8_runs_260 : decode cX8_runs 260 = .ok (.iconst 1, 1) := by decide +kernel
theorem dX8_runs_261 : decode cX8_runs 261 = .ok (.iadd, 1) := by decide +kernel
theorem dX8_runs_262 : decode cX8_runs 262 = .ok (.iload 8, 2) := by decide +kernel
theorem dX8_runs_264 : decode cX8_runs 264 = .ok (.invokevirtual 28, 3) := by decide +kernel
theorem dX8_runs_267 : decode cX8_runs 267 = .ok (.ireturn, 1) := by decide +kernel
theorem dX8_runs_268 : decode cX8_runs 268 = .ok (.aload_n 0, 1) := by decide +kernel
theorem dX8_runs_269 : decode cX8_runs 269 = .ok (.aload_n 1, 1) := by decide +kernel
theorem dX8_runs_270 : decode cX8_runs 270 = .ok (.iload 7, 2) := by decide +kernel
theorem dX8_runs_272 : decode cX8_runs 272 = .ok (.iconst 2, 1) := by decide +kernel
theorem dX8_runs_273 : decode cX8_runs 273 = .ok (.iload 4, 2) := by decide +kernel
theorem dX8_runs_275 : decode cX8_runs 275 = .ok (.aload_n 1, 1) := by decide +kernel
theorem dX8_runs_276 : decode cX8_runs 276 = .ok (.getfield 43, 3) := by decide +kernel
theorem dX8_runs_279 : decode cX8_runs 279 = .ok (.isub, 1) := by decide +kernel
theorem dX8_runs_280 : decode cX8_runs 280 = .ok (.iload 8, 2) := by decide +kernel
theorem dX8_runs_282 : decode cX8_runs 282 = .ok (.invokevirtual 28, 3) := by decide +kernel
theorem dX8_runs_285 : decode cX8_runs 285 = .ok (.ireturn, 1) := by decide +kernel
theorem dX8_runs_286 : decode cX8_runs 286 = .ok (.aload_n 0, 1) := by decide +kernel
theorem dX8_runs_287 : decode cX8_runs 287 = .ok (.aload_n 1, 1) := by decide +kernel
theorem dX8_runs_288 : decode cX8_runs 288 = .ok (.iload 7, 2) := by decide +kernel
theorem dX8_runs_290 : decode cX8_runs 290 = .ok (.iconst 1, 1) := by decide +kernel
theorem dX8_runs_291 : decode cX8_runs 291 = .ok (.iload 4, 2) := by decide +kernel
theorem dX8_runs_293 : decode cX8_runs 293 = .ok (.iload 8, 2) := by decide +kernel
theorem dX8_runs_295 : decode cX8_runs 295 = .ok (.invokevirtual 28, 3) := by decide +kernel
theorem dX8_runs_298 : decode cX8_runs 298 = .ok (.aload_n 0, 1) := by decide +kernel
theorem dX8_runs_299 : decode cX8_runs 299 = .ok (.aload_n 1, 1) := by decide +kernel
theorem dX8_runs_300 : decode cX8_runs 300 = .ok (.iload 7, 2) := by decide +kernel
theorem dX8_runs_302 : decode cX8_runs 302 = .ok (.iconst 0, 1) := by decide +kernel
theorem dX8_runs_303 : decode cX8_runs 303 = .ok (.iconst 2, 1) := by decide +kernel
theorem dX8_runs_304 : decode cX8_runs 304 = .ok (.iload 8, 2) := by decide +kernel
theorem dX8_runs_306 : decode cX8_runs 306 = .ok (.invokevirtual 28, 3) := by decide +kernel
theorem dX8_runs_309 : decode cX8_runs 309 = .ok (.iadd, 1) := by decide +kernel
theorem dX8_runs_310 : decode cX8_runs 310 = .ok (.ireturn, 1) := by decide +kernel
theorem dX8_runs_311 : decode cX8_runs 311 = .ok (.aload_n 0, 1) := by decide +kernel
theorem dX8_runs_312 : decode cX8_runs 312 = .ok (.aload_n 1, 1) := by decide +kernel
theorem dX8_runs_313 : decode cX8_runs 313 = .ok (.iload 7, 2) := by decide +kernel
theorem dX8_runs_315 : decode cX8_runs 315 = .ok (.iconst 0, 1) := by decide +kernel
theorem dX8_runs_316 : decode cX8_runs 316 = .ok (.iload 4, 2) := by decide +kernel
theorem dX8_runs_318 : decode cX8_runs 318 = .ok (.iload 8, 2) := by decide +kernel
theorem dX8_runs_320 : decode cX8_runs 320 = .ok (.invokevirtual 28, 3) := by decide +kernel
theorem dX8_runs_323 : decode cX8_runs 323 = .ok (.aload_n 1, 1) := by decide +kernel
theorem dX8_runs_324 : decode cX8_runs 324 = .ok (.getfield 46, 3) := by decide +kernel
theorem dX8_runs_327 : decode cX8_runs 327 = .ok (.ixor, 1) := by decide +kernel
theorem dX8_runs_328 : decode cX8_runs 328 = .ok (.ireturn, 1) := by decide +kernel
theorem dX8_runs_329 : decode cX8_runs 329 = .ok (.iconst 0, 1) := by decide +kernel
theorem dX8_runs_330 : decode cX8_runs 330 = .ok (.ireturn, 1) := by decide +kernel
theorem dX8_bodyFrom_0 : decode cX8_bodyFrom 0 = .ok (.iload_n 0, 1) := by decide +kernel
theorem dX8_bodyFrom_1 : decode cX8_bodyFrom 1 = .ok (.istore_n 2, 1) := by decide +kernel
theorem dX8_bodyFrom_2 : decode cX8_bodyFrom 2 = .ok (.iconst 0, 1) := by decide +kernel
theorem dX8_bodyFrom_3 : decode cX8_bodyFrom 3 = .ok (.istore_n 3, 1) := by decide +kernel
theorem dX8_bodyFrom_4 : decode cX8_bodyFrom 4 = .ok (.iload_n 3, 1) := by decide +kernel
theorem dX8_bodyFrom_5 : decode cX8_bodyFrom 5 = .ok (.bipush 7, 2) := by decide +kernel
theorem dX8_bodyFrom_7 : decode cX8_bodyFrom 7 = .ok (.if_icmp .ge 46, 3) := by decide +kernel
theorem dX8_bodyFrom_10 : decode cX8_bodyFrom 10 = .ok (.iload_n 2, 1) := by decide +kernel
theorem dX8_bodyFrom_11 : decode cX8_bodyFrom 11 = .ok (.bipush 7, 2) := by decide +kernel
theorem dX8_bodyFrom_13 : decode cX8_bodyFrom 13 = .ok (.invokestatic 49, 3) := by decide +kernel
theorem dX8_bodyFrom_16 : decode cX8_bodyFrom 16 = .ok (.ifCond .eq 37, 3) := by decide +kernel
theorem dX8_bodyFrom_19 : decode cX8_bodyFrom 19 = .ok (.getstatic 53, 3) := by decide +kernel
theorem dX8_bodyFrom_22 : decode cX8_bodyFrom 22 = .ok (.iload_n 2, 1) := by decide +kernel
theorem dX8_bodyFrom_23 : decode cX8_bodyFrom 23 = .ok (.iconst 3, 1) := by decide +kernel
theorem dX8_bodyFrom_24 : decode cX8_bodyFrom 24 = .ok (.imul, 1) := by decide +kernel
theorem dX8_bodyFrom_25 : decode cX8_bodyFrom 25 = .ok (.iload_n 1, 1) := by decide +kernel
theorem dX8_bodyFrom_26 : decode cX8_bodyFrom 26 = .ok (.iadd, 1) := by decide +kernel
theorem dX8_bodyFrom_27 : decode cX8_bodyFrom 27 = .ok (.iaload, 1) := by decide +kernel
theorem dX8_bodyFrom_28 : decode cX8_bodyFrom 28 = .ok (.ifCond .eq 13, 3) := by decide +kernel
theorem dX8_bodyFrom_31 : decode cX8_bodyFrom 31 = .ok (.getstatic 53, 3) := by decide +kernel
theorem dX8_bodyFrom_34 : decode cX8_bodyFrom 34 = .ok (.iload_n 2, 1) := by decide +kernel
theorem dX8_bodyFrom_35 : decode cX8_bodyFrom 35 = .ok (.iconst 3, 1) := by decide +kernel
theorem dX8_bodyFrom_36 : decode cX8_bodyFrom 36 = .ok (.imul, 1) := by decide +kernel
theorem dX8_bodyFrom_37 : decode cX8_bodyFrom 37 = .ok (.iload_n 1, 1) := by decide +kernel
theorem dX8_bodyFrom_38 : decode cX8_bodyFrom 38 = .ok (.iadd, 1) := by decide +kernel
theorem dX8_bodyFrom_39 : decode cX8_bodyFrom 39 = .ok (.iaload, 1) := by decide +kernel
theorem dX8_bodyFrom_40 : decode cX8_bodyFrom 40 = .ok (.ireturn, 1) := by decide +kernel
theorem dX8_bodyFrom_41 : decode cX8_bodyFrom 41 = .ok (.getstatic 40, 3) := by decide +kernel
theorem dX8_bodyFrom_44 : decode cX8_bodyFrom 44 = .ok (.iload_n 2, 1) := by decide +kernel
theorem dX8_bodyFrom_45 : decode cX8_bodyFrom 45 = .ok (.iaload, 1) := by decide +kernel
theorem dX8_bodyFrom_46 : decode cX8_bodyFrom 46 = .ok (.istore_n 2, 1) := by decide +kernel
theorem dX8_bodyFrom_47 : decode cX8_bodyFrom 47 = .ok (.iinc 3 1, 3) := by decide +kernel
theorem dX8_bodyFrom_50 : decode cX8_bodyFrom 50 = .ok (.goto (-46), 3) := by decide +kernel
theorem dX8_bodyFrom_53 : decode cX8_bodyFrom 53 = .ok (.iconst 0, 1) := by decide +kernel
theorem dX8_bodyFrom_54 : decode cX8_bodyFrom 54 = .ok (.ireturn, 1) := by decide +kernel
theorem dX8_note_0 : decode cX8_note 0 = .ok (.aload_n 0, 1) := by decide +kernel
theorem dX8_note_1 : decode cX8_note 1 = .ok (.getfield 15, 3) := by decide +kernel
theorem dX8_note_4 : decode cX8_note 4 = .ok (.bipush 20, 2) := by decide +kernel
theorem dX8_note_6 : decode cX8_note 6 = .ok (.if_icmp .ge 13, 3) := by decide +kernel
theorem dX8_note_9 : decode cX8_note 9 = .ok (.aload_n 0, 1) := by decide +kernel
theorem dX8_note_10 : decode cX8_note 10 = .ok (.getfield 9, 3) := by decide +kernel
theorem dX8_note_13 : decode cX8_note 13 = .ok (.aload_n 0, 1) := by decide +kernel
theorem dX8_note_14 : decode cX8_note 14 = .ok (.getfield 15, 3) := by decide +kernel
theorem dX8_note_17 : decode cX8_note 17 = .ok (.iload_n 1, 1) := by decide +kernel
theorem dX8_note_18 : decode cX8_note 18 = .ok (.iastore, 1) := by decide +kernel
theorem dX8_note_19 : decode cX8_note 19 = .ok (.aload_n 0, 1) := by decide +kernel
theorem dX8_note_20 : decode cX8_note 20 = .ok (.dup, 1) := by decide +kernel
theorem dX8_note_21 : decode cX8_note 21 = .ok (.getfield 15, 3) := by decide +kernel
theorem dX8_note_24 : decode cX8_note 24 = .ok (.iconst 1, 1) := by decide +kernel
theorem dX8_note_25 : decode cX8_note 25 = .ok (.iadd, 1) := by decide +kernel
theorem dX8_note_26 : decode cX8_note 26 = .ok (.putfield 15, 3) := by decide +kernel
theorem dX8_note_29 : decode cX8_note 29 = .ok (.return_, 1) := by decide +kernel
theorem dX9_init_0 : decode cX9_init 0 = .ok (.aload_n 0, 1) := by decide +kernel
theorem dX9_init_1 : decode cX9_init 1 = .ok (.invokespecial 3, 3) := by decide +kernel
theorem dX9_init_4 : decode cX9_init 4 = .ok (.aload_n 0, 1) := by decide +kernel
theorem dX9_init_5 : decode cX9_init 5 = .ok (.iconst (-1), 1) := by decide +kernel
theorem dX9_init_6 : decode cX9_init 6 = .ok (.putfield 9, 3) := by decide +kernel
theorem dX9_init_9 : decode cX9_init 9 = .ok (.aload_n 0, 1) := by decide +kernel
theorem dX9_init_10 : decode cX9_init 10 = .ok (.bipush 60, 2) := by decide +kernel
theorem dX9_init_12 : decode cX9_init 12 = .ok (.newarray .long, 2) := by decide +kernel
theorem dX9_init_14 : decode cX9_init 14 = .ok (.putfield 15, 3) := by decide +kernel
theorem dX9_init_17 : decode cX9_init 17 = .ok (.return_, 1) := by decide +kernel
theorem dX9_become_0 : decode cX9_become 0 = .ok (.aload_n 0, 1) := by decide +kernel
theorem dX9_become_1 : decode cX9_become 1 = .ok (.iload_n 1, 1) := by decide +kernel
theorem dX9_become_2 : decode cX9_become 2 = .ok (.putfield 9, 3) := by decide +kernel
theorem dX9_become_5 : decode cX9_become 5 = .ok (.aload_n 0, 1) := by decide +kernel
theorem dX9_become_6 : decode cX9_become 6 = .ok (.iload_n 2, 1) := by decide +kernel
theorem dX9_become_7 : decode cX9_become 7 = .ok (.putfield 19, 3) := by decide +kernel
theorem dX9_become_10 : decode cX9_become 10 = .ok (.aload_n 0, 1) := by decide +kernel
theorem dX9_become_11 : decode cX9_become 11 = .ok (.getfield 15, 3) := by decide +kernel
theorem dX9_become_14 : decode cX9_become 14 = .ok (.lconst 0, 1) := by decide +kernel
theorem dX9_become_15 : decode cX9_become 15 = .ok (.invokestatic 22, 3) := by decide +kernel
theorem dX9_become_18 : decode cX9_become 18 = .ok (.return_, 1) := by decide +kernel
theorem dX9_isPart_0 : decode cX9_isPart 0 = .ok (.iload_n 1, 1) := by decide +kernel
theorem dX9_isPart_1 : decode cX9_isPart 1 = .ok (.ifCond .lt 29, 3) := by decide +kernel
theorem dX9_isPart_4 : decode cX9_isPart 4 = .ok (.iload_n 2, 1) := by decide +kernel
theorem dX9_isPart_5 : decode cX9_isPart 5 = .ok (.ifCond .lt 25, 3) := by decide +kernel
theorem dX9_isPart_8 : decode cX9_isPart 8 = .ok (.iload_n 2, 1) := by decide +kernel
theorem dX9_isPart_9 : decode cX9_isPart 9 = .ok (.aload_n 0, 1) := by decide +kernel
theorem dX9_isPart_10 : decode cX9_isPart 10 = .ok (.getfield 19, 3) := by decide +kernel
theorem dX9_isPart_13 : decode cX9_isPart 13 = .ok (.if_icmp .gt 17, 3) := by decide +kernel
theorem dX9_isPart_16 : decode cX9_isPart 16 = .ok (.iload_n 1, 1) := by decide +kernel
theorem dX9_isPart_17 : decode cX9_isPart 17 = .ok (.aload_n 0, 1) := by decide +kernel
theorem dX9_isPart_18 : decode cX9_isPart 18 = .ok (.getfield 19, 3) := by decide +kernel
theorem dX9_isPart_21 : decode cX9_isPart 21 = .ok (.iload_n 2, 1) := by decide +kernel
theorem dX9_isPart_22 : decode cX9_isPart 22 = .ok (.isub, 1) := by decide +kernel
theorem dX9_isPart_23 : decode cX9_isPart 23 = .ok (.if_icmp .gt 7, 3) := by decide +kernel
theorem dX9_isPart_26 : decode cX9_isPart 26 = .ok (.iconst 1, 1) := by decide +kernel
theorem dX9_isPart_27 : decode cX9_isPart 27 = .ok (.goto 4, 3) := by decide +kernel
theorem dX9_isPart_30 : decode cX9_isPart 30 = .ok (.iconst 0, 1) := by decide +kernel
theorem dX9_isPart_31 : decode cX9_isPart 31 = .ok (.ireturn, 1) := by decide +kernel
theorem dX9_cut_0 : decode cX9_cut 0 = .ok (.aload_n 0, 1) := by decide +kernel
theorem dX9_cut_1 : decode cX9_cut 1 = .ok (.getfield 9, 3) := by decide +kernel
theorem dX9_cut_4 : decode cX9_cut 4 = .ok (.tableswitch 48 0 3 #[32, 37, 42, 46], 32) := by decide +kernel
theorem dX9_cut_36 : decode cX9_cut 36 = .ok (.lload_n 1, 1) := by decide +kernel
theorem dX9_cut_37 : decode cX9_cut 37 = .ok (.l2i, 1) := by decide +kernel
theorem dX9_cut_38 : decode cX9_cut 38 = .ok (.i2b, 1) := by decide +kernel
theorem dX9_cut_39 : decode cX9_cut 39 = .ok (.i2l, 1) := by decide +kernel
theorem dX9_cut_40 : decode cX9_cut 40 = .ok (.lreturn, 1) := by decide +kernel
theorem dX9_cut_41 : decode cX9_cut 41 = .ok (.lload_n 1, 1) := by decide +kernel
theorem dX9_cut_42 : decode cX9_cut 42 = .ok (.l2i, 1) := by decide +kernel
theorem dX9_cut_43 : decode cX9_cut 43 = .ok (.i2s, 1) := by decide +kernel
theorem dX9_cut_44 : decode cX9_cut 44 = .ok (.i2l, 1) := by decide +kernel
theorem dX9_cut_45 : decode cX9_cut 45 = .ok (.lreturn, 1) := by decide +kernel
theorem dX9_cut_46 : decode cX9_cut 46 = .ok (.lload_n 1, 1) := by decide +kernel
theorem dX9_cut_47 : decode cX9_cut 47 = .ok (.l2i, 1) := by decide +kernel
theorem dX9_cut_48 : decode cX9_cut 48 = .ok (.i2l, 1) := by decide +kernel
theorem dX9_cut_49 : decode cX9_cut 49 = .ok (.lreturn, 1) := by decide +kernel
theorem dX9_cut_50 : decode cX9_cut 50 = .ok (.lload_n 1, 1) := by decide +kernel
theorem dX9_cut_51 : decode cX9_cut 51 = .ok (.lreturn, 1) := by decide +kernel
theorem dX9_cut_52 : decode cX9_cut 52 = .ok (.lload_n 1, 1) := by decide +kernel
theorem dX9_cut_53 : decode cX9_cut 53 = .ok (.lconst 0, 1) := by decide +kernel
theorem dX9_cut_54 : decode cX9_cut 54 = .ok (.lcmp, 1) := by decide +kernel
theorem dX9_cut_55 : decode cX9_cut 55 = .ok (.ifCond .eq 7, 3) := by decide +kernel
theorem dX9_cut_58 : decode cX9_cut 58 = .ok (.lconst 1, 1) := by decide +kernel
theorem dX9_cut_59 : decode cX9_cut 59 = .ok (.goto 4, 3) := by decide +kernel
theorem dX9_cut_62 : decode cX9_cut 62 = .ok (.lconst 0, 1) := by decide +kernel
theorem dX9_cut_63 : decode cX9_cut 63 = .ok (.lreturn, 1) := by decide +kernel
end
section
theorem dX11_init_0 : decode cX11_init 0 = .ok (.aload_n 0, 1) := by decide +kernel
theorem dX11_init_1 : decode cX11_init 1 = .ok (.invokespecial 3, 3) := by decide +kernel
theorem dX11_init_4 : decode cX11_init 4 = .ok (.aload_n 0, 1) := by decide +kernel
theorem dX11_init_5 : decode cX11_init 5 = .ok (.bipush 12, 2) := by decide +kernel
theorem dX11_init_7 : decode cX11_init 7 = .ok (.newarray .int, 2) := by decide +kernel
theorem dX11_init_9 : decode cX11_init 9 = .ok (.putfield 9, 3) := by decide +kernel
theorem dX11_init_12 : decode cX11_init 12 = .ok (.aload_n 0, 1) := by decide +kernel
theorem dX11_init_13 : decode cX11_init 13 = .ok (.bipush 12, 2) := by decide +kernel
theorem dX11_init_15 : decode cX11_init 15 = .ok (.newarray .int, 2) := by decide +kernel
theorem dX11_init_17 : decode cX11_init 17 = .ok (.putfield 15, 3) := by decide +kernel
theorem dX11_init_20 : decode cX11_init 20 = .ok (.aload_n 0, 1) := by decide +kernel
theorem dX11_init_21 : decode cX11_init 21 = .ok (.bipush 6, 2) := by decide +kernel
theorem dX11_init_23 : decode cX11_init 23 = .ok (.newarray .int, 2) := by decide +kernel
theorem dX11_init_25 : decode cX11_init 25 = .ok (.putfield 18, 3) := by decide +kernel
theorem dX11_init_28 : decode cX11_init 28 = .ok (.aload_n 0, 1) := by decide +kernel
theorem dX11_init_29 : decode cX11_init 29 = .ok (.bipush 6, 2) := by decide +kernel
theorem dX11_init_31 : decode cX11_init 31 = .ok (.newarray .int, 2) := by decide +kernel
theorem dX11_init_33 : decode cX11_init 33 = .ok (.putfield 21, 3) := by decide +kernel
theorem dX11_init_36 : decode cX11_init 36 = .ok (.aload_n 0, 1) := by decide +kernel
theorem dX11_init_37 : decode cX11_init 37 = .ok (.bipush 6, 2) := by decide +kernel
theorem dX11_init_39 : decode cX11_init 39 = .ok (.newarray .int, 2) := by decide +kernel
theorem dX11_init_41 : decode cX11_init 41 = .ok (.putfield 24, 3) := by decide +kernel
theorem dX11_init_44 : decode cX11_init 44 = .ok (.aload_n 0, 1) := by decide +kernel
theorem dX11_init_45 : decode cX11_init 45 = .ok (.bipush 6, 2) := by decide +kernel
theorem dX11_init_47 : decode cX11_init 47 = .ok (.newarray .int, 2) := by decide +kernel
theorem dX11_init_49 : decode cX11_init 49 = .ok (.putfield 27, 3) := by decide +kernel
theorem dX11_init_52 : decode cX11_init 52 = .ok (.aload_n 0, 1) := by decide +kernel
theorem dX11_init_53 : decode cX11_init 53 = .ok (.bipush 6, 2) := by decide +kernel
theorem dX11_init_55 : decode cX11_init 55 = .ok (.newarray .int, 2) := by decide +kernel
theorem dX11_init_57 : decode cX11_init 57 = .ok (.putfield 30, 3) := by decide +kernel
theorem dX11_init_60 : decode cX11_init 60 = .ok (.aload_n 0, 1) := by decide +kernel
theorem dX11_init_61 : decode cX11_init 61 = .ok (.bipush 24, 2) := by decide +kernel
theorem dX11_init_63 : decode cX11_init 63 = .ok (.newarray .int, 2) := by decide +kernel
theorem dX11_init_65 : decode cX11_init 65 = .ok (.putfield 33, 3) := by decide +kernel
theorem dX11_init_68 : decode cX11_init 68 = .ok (.aload_n 0, 1) := by decide +kernel
theorem dX11_init_69 : decode cX11_init 69 = .ok (.bipush 100, 2) := by decide +kernel
theorem dX11_init_71 : decode cX11_init 71 = .ok (.newarray .int, 2) := by decide +kernel
theorem dX11_init_73 : decode cX11_init 73 = .ok (.putfield 36, 3) := by decide +kernel
theorem dX11_init_76 : decode cX11_init 76 = .ok (.aload_n 0, 1) := by decide +kernel
theorem dX11_init_77 : decode cX11_init 77 = .ok (.bipush 6, 2) := by decide +kernel
theorem dX11_init_79 : decode cX11_init 79 = .ok (.newarray .int, 2) := by decide +kernel
theorem dX11_init_81 : decode cX11_init 81 = .ok (.putfield 39, 3) := by decide +kernel
theorem dX11_init_84 : decode cX11_init 84 = .ok (.aload_n 0, 1) := by decide +kernel
theorem dX11_init_85 : decode cX11_init 85 = .ok (.bipush 61, 2) := by decide +kernel
theorem dX11_init_87 : decode cX11_init 87 = .ok (.newarray .int, 2) := by decide +kernel
theorem dX11_init_89 : decode cX11_init 89 = .ok (.putfield 42, 3) := by decide +kernel
theorem dX11_init_92 : decode cX11_init 92 = .ok (.aload_n 0, 1) := by decide +kernel
theorem dX11_init_93 : decode cX11_init 93 = .ok (.bipush 61, 2) := by decide +kernel
theorem dX11_init_95 : decode cX11_init 95 = .ok (.newarray .int, 2) := by decide +kernel
theorem dX11_init_97 : decode cX11_init 97 = .ok (.putfield 45, 3) := by decide +kernel
theorem dX11_init_100 : decode cX11_init 100 = .ok (.aload_n 0, 1) := by decide +kernel
theorem dX11_init_101 : decode cX11_init 101 = .ok (.bipush 61, 2) := by decide +kernel
theorem dX11_init_103 : decode cX11_init 103 = .ok (.newarray .int, 2) := by decide +kernel
theorem dX11_init_105 : decode cX11_init 105 = .ok (.putfield 48, 3) := by decide +kernel
theorem dX11_init_108 : decode cX11_init 108 = .ok (.aload_n 0, 1) := by decide +kernel
theorem dX11_init_109 : decode cX11_init 109 = .ok (.bipush 61, 2) := by decide +kernel
theorem dX11_init_111 : decode cX11_init 111 = .ok (.newarray .int, 2) := by decide +kernel
theorem dX11_init_113 : decode cX11_init 113 = .ok (.putfield 51, 3) := by decide +kernel
theorem dX11_init_116 : decode cX11_init 116 = .ok (.aload_n 0, 1) := by decide +kernel
theorem dX11_init_117 : decode cX11_init 117 = .ok (.sipush 800, 3) := by decide +kernel
theorem dX11_init_120 : decode cX11_init 120 = .ok (.newarray .int, 2) := by decide +kernel
theorem dX11_init_122 : decode cX11_init 122 = .ok (.putfield 54, 3) := by decide +kernel
theorem dX11_init_125 : decode cX11_init 125 = .ok (.aload_n 0, 1) := by decide +kernel
theorem dX11_init_126 : decode cX11_init 126 = .ok (.bipush 110, 2) := by decide +kernel
theorem dX11_init_128 : decode cX11_init 128 = .ok (.newarray .boolean, 2) := by decide +kernel
theorem dX11_init_130 : decode cX11_init 130 = .ok (.putfield 57, 3) := by decide +kernel
theorem dX11_init_133 : decode cX11_init 133 = .ok (.aload_n 0, 1) := by decide +kernel
theorem dX11_init_134 : decode cX11_init 134 = .ok (.iconst 5, 1) := by decide +kernel
theorem dX11_init_135 : decode cX11_init 135 = .ok (.newarray .int, 2) := by decide +kernel
theorem dX11_init_137 : decode cX11_init 137 = .ok (.putfield 61, 3) := by decide +kernel
theorem dX11_init_140 : decode cX11_init 140 = .ok (.aload_n 0, 1) := by decide +kernel
theorem dX11_init_141 : decode cX11_init 141 = .ok (.iconst 5, 1) := by decide +kernel
theorem dX11_init_142 : decode cX11_init 142 = .ok (.newarray .int, 2) := by decide +kernel
theorem dX11_init_144 : decode cX11_init 144 = .ok (.putfield 64, 3) := by decide +kernel
theorem dX11_init_147 : decode cX11_init 147 = .ok (.aload_n 0, 1) := by decide +kernel
theorem dX11_init_148 : decode cX11_init 148 = .ok (.iconst 5, 1) := by decide +kernel
theorem dX11_init_149 : decode cX11_init 149 = .ok (.newarray .int, 2) := by decide +kernel
theorem dX11_init_151 : decode cX11_init 151 = .ok (.putfield 67, 3) := by decide +kernel
theorem dX11_init_154 : decode cX11_init 154 = .ok (.aload_n 0, 1) := by decide +kernel
theorem dX11_init_155 : decode cX11_init 155 = .ok (.iconst 5, 1) := by decide +kernel
theorem dX11_init_156 : decode cX11_init 156 = .ok (.newarray .int, 2) := by decide +kernel
theorem dX11_init_158 : decode cX11_init 158 = .ok (.putfield 70, 3) := by decide +kernel
theorem dX11_init_161 : decode cX11_init 161 = .ok (.aload_n 0, 1) := by decide +kernel
theorem dX11_init_162 : decode cX11_init 162 = .ok (.bipush 10, 2) := by decide +kernel
theorem dX11_init_164 : decode cX11_init 164 = .ok (.newarray .int, 2) := by decide +kernel
theorem dX11_init_166 : decode cX11_init 166 = .ok (.putfield 73, 3) := by decide +kernel
theorem dX11_init_169 : decode cX11_init 169 = .ok (.aload_n 0, 1) := by decide +kernel
theorem dX11_init_170 : decode cX11_init 170 = .ok (.bipush 10, 2) := by decide +kernel
theorem dX11_init_172 : decode cX11_init 172 = .ok (.newarray .int, 2) := by decide +kernel
theorem dX11_init_174 : decode cX11_init 174 = .ok (.putfield 76, 3) := by decide +kernel
theorem dX11_init_177 : decode cX11_init 177 = .ok (.aload_n 0, 1) := by decide +kernel
theorem dX11_init_178 : decode cX11_init 178 = .ok (.bipush 8, 2) := by decide +kernel
theorem dX11_init_180 : decode cX11_init 180 = .ok (.newarray .int, 2) := by decide +kernel
theorem dX11_init_182 : decode cX11_init 182 = .ok (.putfield 79, 3) := by decide +kernel
theorem dX11_init_185 : decode cX11_init 185 = .ok (.aload_n 0, 1) := by decide +kernel
theorem dX11_init_186 : decode cX11_init 186 = .ok (.bipush 8, 2) := by decide +kernel
theorem dX11_init_188 : decode cX11_init 188 = .ok (.newarray .int, 2) := by decide +kernel
theorem dX11_init_190 : decode cX11_init 190 = .ok (.putfield 82, 3) := by decide +kernel
theorem dX11_init_193 : decode cX11_init 193 = .ok (.aload_n 0, 1) := by decide +kernel
theorem dX11_init_194 : decode cX11_init 194 = .ok (.bipush 20, 2) := by decide +kernel
theorem dX11_init_196 : decode cX11_init 196 = .ok (.newarray .int, 2) := by decide +kernel
theorem dX11_init_198 : decode cX11_init 198 = .ok (.putfield 85, 3) := by decide +kernel
theorem dX11_init_201 : decode cX11_init 201 = .ok (.aload_n 0, 1) := by decide +kernel
theorem dX11_init_202 : decode cX11_init 202 = .ok (.sipush 140, 3) := by decide +kernel
theorem dX11_init_205 : decode cX11_init 205 = .ok (.newarray .int, 2) := by decide +kernel
theorem dX11_init_207 : decode cX11_init 207 = .ok (.putfield 88, 3) := by decide +kernel
theorem dX11_init_210 : decode cX11_init 210 = .ok (.aload_n 0, 1) := by decide +kernel
theorem dX11_init_211 : decode cX11_init 211 = .ok (.sipush 140, 3) := by decide +kernel
theorem dX11_init_214 : decode cX11_init 214 = .ok (.newarray .int, 2) := by decide +kernel
theorem dX11_init_216 : decode cX11_init 216 = .ok (.putfield 91, 3) := by decide +kernel
theorem dX11_init_219 : decode cX11_init 219 = .ok (.aload_n 0, 1) := by decide +kernel
theorem dX11_init_220 : decode cX11_init 220 = .ok (.bipush 6, 2) := by decide +kernel
theorem dX11_init_222 : decode cX11_init 222 = .ok (.newarray .int, 2) := by decide +kernel
theorem dX11_init_224 : decode cX11_init 224 = .ok (.putfield 94, 3) := by decide +kernel
theorem dX11_init_227 : decode cX11_init 227 = .ok (.aload_n 0, 1) := by decide +kernel
theorem dX11_init_228 : decode cX11_init 228 = .ok (.bipush 6, 2) := by decide +kernel
theorem dX11_init_230 : decode cX11_init 230 = .ok (.newarray .int, 2) := by decide +kernel
theorem dX11_init_232 : decode cX11_init 232 = .ok (.putfield 97, 3) := by decide +kernel
theorem dX11_init_235 : decode cX11_init 235 = .ok (.aload_n 0, 1) := by decide +kernel
theorem dX11_init_236 : decode cX11_init 236 = .ok (.bipush 6, 2) := by decide +kernel
theorem dX11_init_238 : decode cX11_init 238 = .ok (.newarray .int, 2) := by decide +kernel
theorem dX11_init_240 : decode cX11_init 240 = .ok (.putfield 100, 3) := by decide +kernel
theorem dX11_init_243 : decode cX11_init 243 = .ok (.aload_n 0, 1) := by decide +kernel
theorem dX11_init_244 : decode cX11_init 244 = .ok (.sipush 360, 3) := by decide +kernel
theorem dX11_init_247 : decode cX11_init 247 = .ok (.newarray .long, 2) := by decide +kernel
theorem dX11_init_249 : decode cX11_init 249 = .ok (.putfield 103, 3) := by decide +kernel
theorem dX11_init_252 : decode cX11_init 252 = .ok (.iconst 0, 1) := by decide +kernel
theorem dX11_init_253 : decode cX11_init 253 = .ok (.istore_n 1, 1) := by decide +kernel
theorem dX11_init_254 : decode cX11_init 254 = .ok (.iload_n 1, 1) := by decide +kernel
theorem dX11_init_255 : decode cX11_init 255 = .ok (.bipush 12, 2) := by decide +kernel
theorem dX11_init_257 : decode cX11_init 257 = .ok (.if_icmp .ge 19, 3) := by decide +kernel
theorem dX11_init_260 : decode cX11_init 260 = .ok (.aload_n 0, 1) := by decide +kernel
theorem dX11_init_261 : decode cX11_init 261 = .ok (.getfield 9, 3) := by decide +kernel
theorem dX11_init_264 : decode cX11_init 264 = .ok (.iload_n 1, 1) := by decide +kernel
theorem dX11_init_265 : decode cX11_init 265 = .ok (.iload_n 1, 1) := by decide +kernel
theorem dX11_init_266 : decode cX11_init 266 = .ok (.bipush 10, 2) := by decide +kernel
theorem dX11_init_268 : decode cX11_init 268 = .ok (.irem, 1) := by decide +kernel
theorem dX11_init_269 : decode cX11_init 269 = .ok (.iastore, 1) := by decide +kernel
theorem dX11_init_270 : decode cX11_init 270 = .ok (.iinc 1 1, 3) := by decide +kernel
theorem dX11_init_273 : decode cX11_init 273 = .ok (.goto (-19), 3) := by decide +kernel
theorem dX11_init_276 : decode cX11_init 276 = .ok (.aload_n 0, 1) := by decide +kernel
theorem dX11_init_277 : decode cX11_init 277 = .ok (.iconst (-1), 1) := by decide +kernel
theorem dX11_init_278 : decode cX11_init 278 = .ok (.putfield 107, 3) := by decide +kernel
theorem dX11_init_281 : decode cX11_init 281 = .ok (.iconst 0, 1) := by decide +kernel
theorem dX11_init_282 : decode cX11_init 282 = .ok (.istore_n 1, 1) := by decide +kernel
theorem dX11_init_283 : decode cX11_init 283 = .ok (.iload_n 1, 1) := by decide +kernel
theorem dX11_init_284 : decode cX11_init 284 = .ok (.bipush 6, 2) := by decide +kernel
theorem dX11_init_286 : decode cX11_init 286 = .ok (.if_icmp .ge 16, 3) := by decide +kernel
theorem dX11_init_289 : decode cX11_init 289 = .ok (.aload_n 0, 1) := by decide +kernel
theorem dX11_init_290 : decode cX11_init 290 = .ok (.getfield 97, 3) := by decide +kernel
theorem dX11_init_293 : decode cX11_init 293 = .ok (.iload_n 1, 1) := by decide +kernel
theorem dX11_init_294 : decode cX11_init 294 = .ok (.iconst (-1), 1) := by decide +kernel
theorem dX11_init_295 : decode cX11_init 295 = .ok (.iastore, 1) := by decide +kernel
theorem dX11_init_296 : decode cX11_init 296 = .ok (.iinc 1 1, 3) := by decide +kernel
theorem dX11_init_299 : decode cX11_init 299 = .ok (.goto (-16), 3) := by decide +kernel
theorem dX11_init_302 : decode cX11_init 302 = .ok (.return_, 1) := by decide +kernel
theorem dX11_within_0 : decode cX11_within 0 = .ok (.iload_n 0, 1) := by decide +kernel
theorem dX11_within_1 : decode cX11_within 1 = .ok (.iload_n 1, 1) := by decide +kernel
theorem dX11_within_2 : decode cX11_within 2 = .ok (.if_icmp .lt 12, 3) := by decide +kernel
theorem dX11_within_5 : decode cX11_within 5 = .ok (.iload_n 0, 1) := by decide +kernel
theorem dX11_within_6 : decode cX11_within 6 = .ok (.iload_n 2, 1) := by decide +kernel
theorem dX11_within_7 : decode cX11_within 7 = .ok (.if_icmp .gt 7, 3) := by decide +kernel
theorem dX11_within_10 : decode cX11_within 10 = .ok (.iconst 1, 1) := by decide +kernel
theorem dX11_within_11 : decode cX11_within 11 = .ok (.goto 4, 3) := by decide +kernel
theorem dX11_within_14 : decode cX11_within 14 = .ok (.iconst 0, 1) := by decide +kernel
theorem dX11_within_15 : decode cX11_within 15 = .ok (.ireturn, 1) := by decide +kernel
theorem dX11_isOne_0 : decode cX11_isOne 0 = .ok (.iload_n 1, 1) := by decide +kernel
theorem dX11_isOne_1 : decode cX11_isOne 1 = .ok (.iconst 0, 1) := by decide +kernel
theorem dX11_isOne_2 : decode cX11_isOne 2 = .ok (.aload_n 0, 1) := by decide +kernel
theorem dX11_isOne_3 : decode cX11_isOne 3 = .ok (.getfield 111, 3) := by decide +kernel
theorem dX11_isOne_6 : decode cX11_isOne 6 = .ok (.iconst 1, 1) := by decide +kernel
theorem dX11_isOne_7 : decode cX11_isOne 7 = .ok (.isub, 1) := by decide +kernel
theorem dX11_isOne_8 : decode cX11_isOne 8 = .ok (.invokestatic 114, 3) := by decide +kernel
theorem dX11_isOne_11 : decode cX11_isOne 11 = .ok (.ireturn, 1) := by decide +kernel
theorem dX11_isPurpose_0 : decode cX11_isPurpose 0 = .ok (.iload_n 0, 1) := by decide +kernel
theorem dX11_isPurpose_1 : decode cX11_isPurpose 1 = .ok (.iconst 0, 1) := by decide +kernel
theorem dX11_isPurpose_2 : decode cX11_isPurpose 2 = .ok (.bipush 11, 2) := by decide +kernel
theorem dX11_isPurpose_4 : decode cX11_isPurpose 4 = .ok (.invokestatic 114, 3) := by decide +kernel
theorem dX11_isPurpose_7 : decode cX11_isPurpose 7 = .ok (.ireturn, 1) := by decide +kernel
theorem dX11_has_0 : decode cX11_has 0 = .ok (.iload_n 0, 1) := by decide +kernel
theorem dX11_has_1 : decode cX11_has 1 = .ok (.iload_n 1, 1) := by decide +kernel
theorem dX11_has_2 : decode cX11_has 2 = .ok (.ishr, 1) := by decide +kernel
theorem dX11_has_3 : decode cX11_has 3 = .ok (.iconst 1, 1) := by decide +kernel
theorem dX11_has_4 : decode cX11_has 4 = .ok (.iand, 1) := by decide +kernel
theorem dX11_has_5 : decode cX11_has 5 = .ok (.iconst 1, 1) := by decide +kernel
theorem dX11_has_6 : decode cX11_has 6 = .ok (.if_icmp .ne 7, 3) := by decide +kernel
theorem dX11_has_9 : decode cX11_has 9 = .ok (.iconst 1, 1) := by decide +kernel
theorem dX11_has_10 : decode cX11_has 10 = .ok (.goto 4, 3) := by decide +kernel
theorem dX11_has_13 : decode cX11_has 13 = .ok (.iconst 0, 1) := by decide +kernel
theorem dX11_has_14 : decode cX11_has 14 = .ok (.ireturn, 1) := by decide +kernel
theorem dX11_guest_0 : decode cX11_guest 0 = .ok (.iload_n 1, 1) := by decide +kernel
theorem dX11_guest_1 : decode cX11_guest 1 = .ok (.iconst 0, 1) := by decide +kernel
theorem dX11_guest_2 : decode cX11_guest 2 = .ok (.bipush 6, 2) := by decide +kernel
theorem dX11_guest_4 : decode cX11_guest 4 = .ok (.invokestatic 114, 3) := by decide +kernel
theorem dX11_guest_7 : decode cX11_guest 7 = .ok (.ifCond .ne 5, 3) := by decide +kernel
theorem dX11_guest_10 : decode cX11_guest 10 = .ok (.iconst (-1), 1) := by decide +kernel
theorem dX11_guest_11 : decode cX11_guest 11 = .ok (.ireturn, 1) := by decide +kernel
theorem dX11_guest_12 : decode cX11_guest 12 = .ok (.iload_n 2, 1) := by decide +kernel
theorem dX11_guest_13 : decode cX11_guest 13 = .ok (.iconst 0, 1) := by decide +kernel
theorem dX11_guest_14 : decode cX11_guest 14 = .ok (.bipush 9, 2) := by decide +kernel
theorem dX11_guest_16 : decode cX11_guest 16 = .ok (.invokestatic 114, 3) := by decide +kernel
theorem dX11_guest_19 : decode cX11_guest 19 = .ok (.ifCond .eq 14, 3) := by decide +kernel
theorem dX11_guest_22 : decode cX11_guest 22 = .ok (.iload_n 3, 1) := by decide +kernel
theorem dX11_guest_23 : decode cX11_guest 23 = .ok (.iconst 0, 1) := by decide +kernel
theorem dX11_guest_24 : decode cX11_guest 24 = .ok (.sipush 4095, 3) := by decide +kernel
theorem dX11_guest_27 : decode cX11_guest 27 = .ok (.invokestatic 114, 3) := by decide +kernel
theorem dX11_guest_30 : decode cX11_guest 30 = .ok (.ifCond .ne 6, 3) := by decide +kernel
theorem dX11_guest_33 : decode cX11_guest 33 = .ok (.bipush (-2), 2) := by decide +kernel
theorem dX11_guest_35 : decode cX11_guest 35 = .ok (.ireturn, 1) := by decide +kernel
theorem dX11_guest_36 : decode cX11_guest 36 = .ok (.aload_n 0, 1) := by decide +kernel
theorem dX11_guest_37 : decode cX11_guest 37 = .ok (.getfield 111, 3) := by decide +kernel
theorem dX11_guest_40 : decode cX11_guest 40 = .ok (.bipush 6, 2) := by decide +kernel
theorem dX11_guest_42 : decode cX11_guest 42 = .ok (.if_icmp .ne 6, 3) := by decide +kernel
theorem dX11_guest_45 : decode cX11_guest 45 = .ok (.bipush (-4), 2) := by decide +kernel
theorem dX11_guest_47 : decode cX11_guest 47 = .ok (.ireturn, 1) := by decide +kernel
theorem dX11_guest_48 : decode cX11_guest 48 = .ok (.aload_n 0, 1) := by decide +kernel
theorem dX11_guest_49 : decode cX11_guest 49 = .ok (.getfield 18, 3) := by decide +kernel
theorem dX11_guest_52 : decode cX11_guest 52 = .ok (.aload_n 0, 1) := by decide +kernel
theorem dX11_guest_53 : decode cX11_guest 53 = .ok (.getfield 111, 3) := by decide +kernel
theorem dX11_guest_56 : decode cX11_guest 56 = .ok (.iload_n 1, 1) := by decide +kernel
theorem dX11_guest_57 : decode cX11_guest 57 = .ok (.iastore, 1) := by decide +kernel
theorem dX11_guest_58 : decode cX11_guest 58 = .ok (.aload_n 0, 1) := by decide +kernel
theorem dX11_guest_59 : decode cX11_guest 59 = .ok (.getfield 21, 3) := by decide +kernel
theorem dX11_guest_62 : decode cX11_guest 62 = .ok (.aload_n 0, 1) := by decide +kernel
theorem dX11_guest_63 : decode cX11_guest 63 = .ok (.getfield 111, 3) := by decide +kernel
theorem dX11_guest_66 : decode cX11_guest 66 = .ok (.iload_n 2, 1) := by decide +kernel
theorem dX11_guest_67 : decode cX11_guest 67 = .ok (.iastore, 1) := by decide +kernel
theorem dX11_guest_68 : decode cX11_guest 68 = .ok (.aload_n 0, 1) := by decide +kernel
theorem dX11_guest_69 : decode cX11_guest 69 = .ok (.getfield 24, 3) := by decide +kernel
theorem dX11_guest_72 : decode cX11_guest 72 = .ok (.aload_n 0, 1) := by decide +kernel
theorem dX11_guest_73 : decode cX11_guest 73 = .ok (.getfield 111, 3) := by decide +kernel
theorem dX11_guest_76 : decode cX11_guest 76 = .ok (.iload_n 3, 1) := by decide +kernel
theorem dX11_guest_77 : decode cX11_guest 77 = .ok (.iastore, 1) := by decide +kernel
theorem dX11_guest_78 : decode cX11_guest 78 = .ok (.aload_n 0, 1) := by decide +kernel
theorem dX11_guest_79 : decode cX11_guest 79 = .ok (.getfield 27, 3) := by decide +kernel
theorem dX11_guest_82 : decode cX11_guest 82 = .ok (.aload_n 0, 1) := by decide +kernel
theorem dX11_guest_83 : decode cX11_guest 83 = .ok (.getfield 111, 3) := by decide +kernel
theorem dX11_guest_86 : decode cX11_guest 86 = .ok (.iconst 0, 1) := by decide +kernel
theorem dX11_guest_87 : decode cX11_guest 87 = .ok (.iastore, 1) := by decide +kernel
theorem dX11_guest_88 : decode cX11_guest 88 = .ok (.aload_n 0, 1) := by decide +kernel
theorem dX11_guest_89 : decode cX11_guest 89 = .ok (.getfield 30, 3) := by decide +kernel
theorem dX11_guest_92 : decode cX11_guest 92 = .ok (.aload_n 0, 1) := by decide +kernel
theorem dX11_guest_93 : decode cX11_guest 93 = .ok (.getfield 111, 3) := by decide +kernel
theorem dX11_guest_96 : decode cX11_guest 96 = .ok (.iconst 1, 1) := by decide +kernel
theorem dX11_guest_97 : decode cX11_guest 97 = .ok (.iastore, 1) := by decide +kernel
theorem dX11_guest_98 : decode cX11_guest 98 = .ok (.iconst 0, 1) := by decide +kernel
theorem dX11_guest_99 : decode cX11_guest 99 = .ok (.istore 4, 2) := by decide +kernel
theorem dX11_guest_101 : decode cX11_guest 101 = .ok (.iload 4, 2) := by decide +kernel
theorem dX11_guest_103 : decode cX11_guest 103 = .ok (.iconst 4, 1) := by decide +kernel
theorem dX11_guest_104 : decode cX11_guest 104 = .ok (.if_icmp .ge 24, 3) := by decide +kernel
theorem dX11_guest_107 : decode cX11_guest 107 = .ok (.aload_n 0, 1) := by decide +kernel
theorem dX11_guest_108 : decode cX11_guest 108 = .ok (.getfield 33, 3) := by decide +kernel
theorem dX11_guest_111 : decode cX11_guest 111 = .ok (.iconst 4, 1) := by decide +kernel
theorem dX11_guest_112 : decode cX11_guest 112 = .ok (.aload_n 0, 1) := by decide +kernel
theorem dX11_guest_113 : decode cX11_guest 113 = .ok (.getfield 111, 3) := by decide +kernel
theorem dX11_guest_116 : decode cX11_guest 116 = .ok (.imul, 1) := by decide +kernel
theorem dX11_guest_117 : decode cX11_guest 117 = .ok (.iload 4, 2) := by decide +kernel
theorem dX11_guest_119 : decode cX11_guest 119 = .ok (.iadd, 1) := by decide +kernel
theorem dX11_guest_120 : decode cX11_guest 120 = .ok (.iconst 0, 1) := by decide +kernel
theorem dX11_guest_121 : decode cX11_guest 121 = .ok (.iastore, 1) := by decide +kernel
theorem dX11_guest_122 : decode cX11_guest 122 = .ok (.iinc 4 1, 3) := by decide +kernel
theorem dX11_guest_125 : decode cX11_guest 125 = .ok (.goto (-24), 3) := by decide +kernel
theorem dX11_guest_128 : decode cX11_guest 128 = .ok (.aload_n 0, 1) := by decide +kernel
theorem dX11_guest_129 : decode cX11_guest 129 = .ok (.dup, 1) := by decide +kernel
theorem dX11_guest_130 : decode cX11_guest 130 = .ok (.getfield 111, 3) := by decide +kernel
theorem dX11_guest_133 : decode cX11_guest 133 = .ok (.dup_x1, 1) := by decide +kernel
theorem dX11_guest_134 : decode cX11_guest 134 = .ok (.iconst 1, 1) := by decide +kernel
theorem dX11_guest_135 : decode cX11_guest 135 = .ok (.iadd, 1) := by decide +kernel
theorem dX11_guest_136 : decode cX11_guest 136 = .ok (.putfield 111, 3) := by decide +kernel
theorem dX11_guest_139 : decode cX11_guest 139 = .ok (.ireturn, 1) := by decide +kernel
theorem dX11_of_0 : decode cX11_of 0 = .ok (.aload_n 0, 1) := by decide +kernel
theorem dX11_of_1 : decode cX11_of 1 = .ok (.iload_n 1, 1) := by decide +kernel
theorem dX11_of_2 : decode cX11_of 2 = .ok (.invokevirtual 118, 3) := by decide +kernel
theorem dX11_of_5 : decode cX11_of 5 = .ok (.ifCond .ne 7, 3) := by decide +kernel
theorem dX11_of_8 : decode cX11_of 8 = .ok (.sipush (-10001), 3) := by decide +kernel
theorem dX11_of_11 : decode cX11_of 11 = .ok (.ireturn, 1) := by decide +kernel
theorem dX11_of_12 : decode cX11_of 12 = .ok (.iload_n 2, 1) := by decide +kernel
theorem dX11_of_13 : decode cX11_of 13 = .ok (.bipush 10, 2) := by decide +kernel
theorem dX11_of_15 : decode cX11_of 15 = .ok (.isub, 1) := by decide +kernel
theorem dX11_of_16 : decode cX11_of 16 = .ok (.invokestatic 122, 3) := by decide +kernel
theorem dX11_of_19 : decode cX11_of 19 = .ok (.ifCond .eq 13, 3) := by decide +kernel
theorem dX11_of_22 : decode cX11_of 22 = .ok (.aload_n 0, 1) := by decide +kernel
theorem dX11_of_23 : decode cX11_of 23 = .ok (.iload_n 1, 1) := by decide +kernel
theorem dX11_of_24 : decode cX11_of 24 = .ok (.iload_n 2, 1) := by decide +kernel
theorem dX11_of_25 : decode cX11_of 25 = .ok (.bipush 10, 2) := by decide +kernel
theorem dX11_of_27 : decode cX11_of 27 = .ok (.isub, 1) := by decide +kernel
theorem dX11_of_28 : decode cX11_of 28 = .ok (.invokevirtual 125, 3) := by decide +kernel
theorem dX11_of_31 : decode cX11_of 31 = .ok (.ireturn, 1) := by decide +kernel
theorem dX11_of_32 : decode cX11_of 32 = .ok (.iload_n 2, 1) := by decide +kernel
theorem dX11_of_33 : decode cX11_of 33 = .ok (.tableswitch 100 0 7 #[47, 54, 61, 68, 75, 82, 88, 94], 47) := by decide +kernel
theorem dX11_of_80 : decode cX11_of 80 = .ok (.aload_n 0, 1) := by decide +kernel
theorem dX11_of_81 : decode cX11_of 81 = .ok (.getfield 18, 3) := by decide +kernel
theorem dX11_of_84 : decode cX11_of 84 = .ok (.iload_n 1, 1) := by decide +kernel
theorem dX11_of_85 : decode cX11_of 85 = .ok (.iaload, 1) := by decide +kernel
theorem dX11_of_86 : decode cX11_of 86 = .ok (.ireturn, 1) := by decide +kernel
theorem dX11_of_87 : decode cX11_of 87 = .ok (.aload_n 0, 1) := by decide +kernel
theorem dX11_of_88 : decode cX11_of 88 = .ok (.getfield 21, 3) := by decide +kernel
theorem dX11_of_91 : decode cX11_of 91 = .ok (.iload_n 1, 1) := by decide +kernel
theorem dX11_of_92 : decode cX11_of 92 = .ok (.iaload, 1) := by decide +kernel
theorem dX11_of_93 : decode cX11_of 93 = .ok (.ireturn, 1) := by decide +kernel
theorem dX11_of_94 : decode cX11_of 94 = .ok (.aload_n 0, 1) := by decide +kernel
theorem dX11_of_95 : decode cX11_of 95 = .ok (.getfield 24, 3) := by decide +kernel
theorem dX11_of_98 : decode cX11_of 98 = .ok (.iload_n 1, 1) := by decide +kernel
theorem dX11_of_99 : decode cX11_of 99 = .ok (.iaload, 1) := by decide +kernel
theorem dX11_of_100 : decode cX11_of 100 = .ok (.ireturn, 1) := by decide +kernel
theorem dX11_of_101 : decode cX11_of 101 = .ok (.aload_n 0, 1) := by decide +kernel
theorem dX11_of_102 : decode cX11_of 102 = .ok (.getfield 27, 3) := by decide +kernel
theorem dX11_of_105 : decode cX11_of 105 = .ok (.iload_n 1, 1) := by decide +kernel
theorem dX11_of_106 : decode cX11_of 106 = .ok (.iaload, 1) := by decide +kernel
theorem dX11_of_107 : decode cX11_of 107 = .ok (.ireturn, 1) := by decide +kernel
theorem dX11_of_108 : decode cX11_of 108 = .ok (.aload_n 0, 1) := by decide +kernel
theorem dX11_of_109 : decode cX11_of 109 = .ok (.getfield 30, 3) := by decide +kernel
theorem dX11_of_112 : decode cX11_of 112 = .ok (.iload_n 1, 1) := by decide +kernel
theorem dX11_of_113 : decode cX11_of 113 = .ok (.iaload, 1) := by decide +kernel
theorem dX11_of_114 : decode cX11_of 114 = .ok (.ireturn, 1) := by decide +kernel
theorem dX11_of_115 : decode cX11_of 115 = .ok (.aload_n 0, 1) := by decide +kernel
theorem dX11_of_116 : decode cX11_of 116 = .ok (.iload_n 1, 1) := by decide +kernel
theorem dX11_of_117 : decode cX11_of 117 = .ok (.invokevirtual 129, 3) := by decide +kernel
theorem dX11_of_120 : decode cX11_of 120 = .ok (.ireturn, 1) := by decide +kernel
theorem dX11_of_121 : decode cX11_of 121 = .ok (.aload_n 0, 1) := by decide +kernel
theorem dX11_of_122 : decode cX11_of 122 = .ok (.iload_n 1, 1) := by decide +kernel
theorem dX11_of_123 : decode cX11_of 123 = .ok (.invokevirtual 133, 3) := by decide +kernel
theorem dX11_of_126 : decode cX11_of 126 = .ok (.ireturn, 1) := by decide +kernel
theorem dX11_of_127 : decode cX11_of 127 = .ok (.aload_n 0, 1) := by decide +kernel
theorem dX11_of_128 : decode cX11_of 128 = .ok (.iload_n 1, 1) := by decide +kernel
theorem dX11_of_129 : decode cX11_of 129 = .ok (.invokevirtual 136, 3) := by decide +kernel
theorem dX11_of_132 : decode cX11_of 132 = .ok (.ireturn, 1) := by decide +kernel
theorem dX11_of_133 : decode cX11_of 133 = .ok (.sipush (-10001), 3) := by decide +kernel
theorem dX11_of_136 : decode cX11_of 136 = .ok (.ireturn, 1) := by decide +kernel
theorem dX11_set_0 : decode cX11_set 0 = .ok (.aload_n 0, 1) := by decide +kernel
theorem dX11_set_1 : decode cX11_set 1 = .ok (.iload_n 1, 1) := by decide +kernel
theorem dX11_set_2 : decode cX11_set 2 = .ok (.invokevirtual 118, 3) := by decide +kernel
theorem dX11_set_5 : decode cX11_set 5 = .ok (.ifCond .eq 12, 3) := by decide +kernel
theorem dX11_set_8 : decode cX11_set 8 = .ok (.iload_n 2, 1) := by decide +kernel
theorem dX11_set_9 : decode cX11_set 9 = .ok (.iconst 0, 1) := by decide +kernel
theorem dX11_set_10 : decode cX11_set 10 = .ok (.iconst 1, 1) := by decide +kernel
theorem dX11_set_11 : decode cX11_set 11 = .ok (.invokestatic 114, 3) := by decide +kernel
theorem dX11_set_14 : decode cX11_set 14 = .ok (.ifCond .ne 5, 3) := by decide +kernel
theorem dX11_set_17 : decode cX11_set 17 = .ok (.iconst (-1), 1) := by decide +kernel
theorem dX11_set_18 : decode cX11_set 18 = .ok (.ireturn, 1) := by decide +kernel
theorem dX11_set_19 : decode cX11_set 19 = .ok (.iload_n 3, 1) := by decide +kernel
theorem dX11_set_20 : decode cX11_set 20 = .ok (.iconst 0, 1) := by decide +kernel
theorem dX11_set_21 : decode cX11_set 21 = .ok (.sipush 4095, 3) := by decide +kernel
theorem dX11_set_24 : decode cX11_set 24 = .ok (.invokestatic 114, 3) := by decide +kernel
theorem dX11_set_27 : decode cX11_set 27 = .ok (.ifCond .ne 6, 3) := by decide +kernel
theorem dX11_set_30 : decode cX11_set 30 = .ok (.bipush (-2), 2) := by decide +kernel
theorem dX11_set_32 : decode cX11_set 32 = .ok (.ireturn, 1) := by decide +kernel
theorem dX11_set_33 : decode cX11_set 33 = .ok (.iload_n 2, 1) := by decide +kernel
theorem dX11_set_34 : decode cX11_set 34 = .ok (.ifCond .ne 12, 3) := by decide +kernel
theorem dX11_set_37 : decode cX11_set 37 = .ok (.aload_n 0, 1) := by decide +kernel
theorem dX11_set_38 : decode cX11_set 38 = .ok (.getfield 24, 3) := by decide +kernel
theorem dX11_set_41 : decode cX11_set 41 = .ok (.iload_n 1, 1) := by decide +kernel
theorem dX11_set_42 : decode cX11_set 42 = .ok (.iaload, 1) := by decide +kernel
theorem dX11_set_43 : decode cX11_set 43 = .ok (.goto 9, 3) := by decide +kernel
theorem dX11_set_46 : decode cX11_set 46 = .ok (.aload_n 0, 1) := by decide +kernel
theorem dX11_set_47 : decode cX11_set 47 = .ok (.getfield 27, 3) := by decide +kernel
theorem dX11_set_50 : decode cX11_set 50 = .ok (.iload_n 1, 1) := by decide +kernel
theorem dX11_set_51 : decode cX11_set 51 = .ok (.iaload, 1) := by decide +kernel
theorem dX11_set_52 : decode cX11_set 52 = .ok (.istore 4, 2) := by decide +kernel
theorem dX11_set_54 : decode cX11_set 54 = .ok (.iload_n 2, 1) := by decide +kernel
theorem dX11_set_55 : decode cX11_set 55 = .ok (.ifCond .ne 13, 3) := by decide +kernel
theorem dX11_set_58 : decode cX11_set 58 = .ok (.aload_n 0, 1) := by decide +kernel
theorem dX11_set_59 : decode cX11_set 59 = .ok (.getfield 24, 3) := by decide +kernel
theorem dX11_set_62 : decode cX11_set 62 = .ok (.iload_n 1, 1) := by decide +kernel
theorem dX11_set_63 : decode cX11_set 63 = .ok (.iload_n 3, 1) := by decide +kernel
theorem dX11_set_64 : decode cX11_set 64 = .ok (.iastore, 1) := by decide +kernel
theorem dX11_set_65 : decode cX11_set 65 = .ok (.goto 10, 3) := by decide +kernel
theorem dX11_set_68 : decode cX11_set 68 = .ok (.aload_n 0, 1) := by decide +kernel
theorem dX11_set_69 : decode cX11_set 69 = .ok (.getfield 27, 3) := by decide +kernel
theorem dX11_set_72 : decode cX11_set 72 = .ok (.iload_n 1, 1) := by decide +kernel
theorem dX11_set_73 : decode cX11_set 73 = .ok (.iload_n 3, 1) := by decide +kernel
theorem dX11_set_74 : decode cX11_set 74 = .ok (.iastore, 1) := by decide +kernel
theorem dX11_set_75 : decode cX11_set 75 = .ok (.iload 4, 2) := by decide +kernel
theorem dX11_set_77 : decode cX11_set 77 = .ok (.ireturn, 1) := by decide +kernel
theorem dX11_weight_0 : decode cX11_weight 0 = .ok (.iload_n 1, 1) := by decide +kernel
theorem dX11_weight_1 : decode cX11_weight 1 = .ok (.invokestatic 122, 3) := by decide +kernel
theorem dX11_weight_4 : decode cX11_weight 4 = .ok (.ifCond .ne 5, 3) := by decide +kernel
theorem dX11_weight_7 : decode cX11_weight 7 = .ok (.iconst (-1), 1) := by decide +kernel
theorem dX11_weight_8 : decode cX11_weight 8 = .ok (.ireturn, 1) := by decide +kernel
theorem dX11_weight_9 : decode cX11_weight 9 = .ok (.iload_n 2, 1) := by decide +kernel
theorem dX11_weight_10 : decode cX11_weight 10 = .ok (.iconst 0, 1) := by decide +kernel
theorem dX11_weight_11 : decode cX11_weight 11 = .ok (.bipush 9, 2) := by decide +kernel
theorem dX11_weight_13 : decode cX11_weight 13 = .ok (.invokestatic 114, 3) := by decide +kernel
theorem dX11_weight_16 : decode cX11_weight 16 = .ok (.ifCond .ne 6, 3) := by decide +kernel
theorem dX11_weight_19 : decode cX11_weight 19 = .ok (.bipush (-2), 2) := by decide +kernel
theorem dX11_weight_21 : decode cX11_weight 21 = .ok (.ireturn, 1) := by decide +kernel
theorem dX11_weight_22 : decode cX11_weight 22 = .ok (.aload_n 0, 1) := by decide +kernel
theorem dX11_weight_23 : decode cX11_weight 23 = .ok (.getfield 9, 3) := by decide +kernel
theorem dX11_weight_26 : decode cX11_weight 26 = .ok (.iload_n 1, 1) := by decide +kernel
theorem dX11_weight_27 : decode cX11_weight 27 = .ok (.iaload, 1) := by decide +kernel
theorem dX11_weight_28 : decode cX11_weight 28 = .ok (.istore_n 3, 1) := by decide +kernel
theorem dX11_weight_29 : decode cX11_weight 29 = .ok (.aload_n 0, 1) := by decide +kernel
theorem dX11_weight_30 : decode cX11_weight 30 = .ok (.getfield 9, 3) := by decide +kernel
theorem dX11_weight_33 : decode cX11_weight 33 = .ok (.iload_n 1, 1) := by decide +kernel
theorem dX11_weight_34 : decode cX11_weight 34 = .ok (.iload_n 2, 1) := by decide +kernel
theorem dX11_weight_35 : decode cX11_weight 35 = .ok (.iastore, 1) := by decide +kernel
theorem dX11_weight_36 : decode cX11_weight 36 = .ok (.iload_n 3, 1) := by decide +kernel
theorem dX11_weight_37 : decode cX11_weight 37 = .ok (.ireturn, 1) := by decide +kernel
theorem dX11_stay_0 : decode cX11_stay 0 = .ok (.aload_n 0, 1) := by decide +kernel
theorem dX11_stay_1 : decode cX11_stay 1 = .ok (.iload_n 1, 1) := by decide +kernel
theorem dX11_stay_2 : decode cX11_stay 2 = .ok (.invokevirtual 118, 3) := by decide +kernel
theorem dX11_stay_5 : decode cX11_stay 5 = .ok (.ifCond .ne 5, 3) := by decide +kernel
theorem dX11_stay_8 : decode cX11_stay 8 = .ok (.iconst (-1), 1) := by decide +kernel
theorem dX11_stay_9 : decode cX11_stay 9 = .ok (.ireturn, 1) := by decide +kernel
theorem dX11_stay_10 : decode cX11_stay 10 = .ok (.aload_n 0, 1) := by decide +kernel
theorem dX11_stay_11 : decode cX11_stay 11 = .ok (.getfield 30, 3) := by decide +kernel
theorem dX11_stay_14 : decode cX11_stay 14 = .ok (.iload_n 1, 1) := by decide +kernel
theorem dX11_stay_15 : decode cX11_stay 15 = .ok (.iaload, 1) := by decide +kernel
theorem dX11_stay_16 : decode cX11_stay 16 = .ok (.istore_n 3, 1) := by decide +kernel
theorem dX11_stay_17 : decode cX11_stay 17 = .ok (.aload_n 0, 1) := by decide +kernel
theorem dX11_stay_18 : decode cX11_stay 18 = .ok (.getfield 30, 3) := by decide +kernel
theorem dX11_stay_21 : decode cX11_stay 21 = .ok (.iload_n 1, 1) := by decide +kernel
theorem dX11_stay_22 : decode cX11_stay 22 = .ok (.iload_n 2, 1) := by decide +kernel
theorem dX11_stay_23 : decode cX11_stay 23 = .ok (.ifCond .eq 7, 3) := by decide +kernel
theorem dX11_stay_26 : decode cX11_stay 26 = .ok (.iconst 1, 1) := by decide +kernel
theorem dX11_stay_27 : decode cX11_stay 27 = .ok (.goto 4, 3) := by decide +kernel
theorem dX11_stay_30 : decode cX11_stay 30 = .ok (.iconst 0, 1) := by decide +kernel
theorem dX11_stay_31 : decode cX11_stay 31 = .ok (.iastore, 1) := by decide +kernel
theorem dX11_stay_32 : decode cX11_stay 32 = .ok (.iload_n 3, 1) := by decide +kernel
theorem dX11_stay_33 : decode cX11_stay 33 = .ok (.ireturn, 1) := by decide +kernel
theorem dX11_redeem_0 : decode cX11_redeem 0 = .ok (.aload_n 0, 1) := by decide +kernel
theorem dX11_redeem_1 : decode cX11_redeem 1 = .ok (.iload_n 1, 1) := by decide +kernel
theorem dX11_redeem_2 : decode cX11_redeem 2 = .ok (.invokevirtual 118, 3) := by decide +kernel
theorem dX11_redeem_5 : decode cX11_redeem 5 = .ok (.ifCond .eq 10, 3) := by decide +kernel
theorem dX11_redeem_8 : decode cX11_redeem 8 = .ok (.iload_n 2, 1) := by decide +kernel
theorem dX11_redeem_9 : decode cX11_redeem 9 = .ok (.invokestatic 122, 3) := by decide +kernel
theorem dX11_redeem_12 : decode cX11_redeem 12 = .ok (.ifCond .ne 5, 3) := by decide +kernel
theorem dX11_redeem_15 : decode cX11_redeem 15 = .ok (.iconst (-1), 1) := by decide +kernel
theorem dX11_redeem_16 : decode cX11_redeem 16 = .ok (.ireturn, 1) := by decide +kernel
theorem dX11_redeem_17 : decode cX11_redeem 17 = .ok (.aload_n 0, 1) := by decide +kernel
theorem dX11_redeem_18 : decode cX11_redeem 18 = .ok (.getfield 27, 3) := by decide +kernel
theorem dX11_redeem_21 : decode cX11_redeem 21 = .ok (.iload_n 1, 1) := by decide +kernel
theorem dX11_redeem_22 : decode cX11_redeem 22 = .ok (.iaload, 1) := by decide +kernel
theorem dX11_redeem_23 : decode cX11_redeem 23 = .ok (.iload_n 2, 1) := by decide +kernel
theorem dX11_redeem_24 : decode cX11_redeem 24 = .ok (.invokestatic 139, 3) := by decide +kernel
theorem dX11_redeem_27 : decode cX11_redeem 27 = .ok (.ifCond .eq 25, 3) := by decide +kernel
theorem dX11_redeem_30 : decode cX11_redeem 30 = .ok (.aload_n 0, 1) := by decide +kernel
theorem dX11_redeem_31 : decode cX11_redeem 31 = .ok (.getfield 24, 3) := by decide +kernel
theorem dX11_redeem_34 : decode cX11_redeem 34 = .ok (.iload_n 1, 1) := by decide +kernel
theorem dX11_redeem_35 : decode cX11_redeem 35 = .ok (.iaload, 1) := by decide +kernel
theorem dX11_redeem_36 : decode cX11_redeem 36 = .ok (.iload_n 2, 1) := by decide +kernel
theorem dX11_redeem_37 : decode cX11_redeem 37 = .ok (.invokestatic 139, 3) := by decide +kernel
theorem dX11_redeem_40 : decode cX11_redeem 40 = .ok (.ifCond .ne 12, 3) := by decide +kernel
theorem dX11_redeem_43 : decode cX11_redeem 43 = .ok (.aload_n 0, 1) := by decide +kernel
theorem dX11_redeem_44 : decode cX11_redeem 44 = .ok (.getfield 15, 3) := by decide +kernel
theorem dX11_redeem_47 : decode cX11_redeem 47 = .ok (.iload_n 2, 1) := by decide +kernel
theorem dX11_redeem_48 : decode cX11_redeem 48 = .ok (.iaload, 1) := by decide +kernel
theorem dX11_redeem_49 : decode cX11_redeem 49 = .ok (.ifCond .ne 6, 3) := by decide +kernel
theorem dX11_redeem_52 : decode cX11_redeem 52 = .ok (.bipush (-3), 2) := by decide +kernel
theorem dX11_redeem_54 : decode cX11_redeem 54 = .ok (.ireturn, 1) := by decide +kernel
theorem dX11_redeem_55 : decode cX11_redeem 55 = .ok (.aload_n 0, 1) := by decide +kernel
theorem dX11_redeem_56 : decode cX11_redeem 56 = .ok (.getfield 24, 3) := by decide +kernel
theorem dX11_redeem_59 : decode cX11_redeem 59 = .ok (.iload_n 1, 1) := by decide +kernel
theorem dX11_redeem_60 : decode cX11_redeem 60 = .ok (.dup2, 1) := by decide +kernel
theorem dX11_redeem_61 : decode cX11_redeem 61 = .ok (.iaload, 1) := by decide +kernel
theorem dX11_redeem_62 : decode cX11_redeem 62 = .ok (.iconst 1, 1) := by decide +kernel
theorem dX11_redeem_63 : decode cX11_redeem 63 = .ok (.iload_n 2, 1) := by decide +kernel
theorem dX11_redeem_64 : decode cX11_redeem 64 = .ok (.ishl, 1) := by decide +kernel
theorem dX11_redeem_65 : decode cX11_redeem 65 = .ok (.ior, 1) := by decide +kernel
theorem dX11_redeem_66 : decode cX11_redeem 66 = .ok (.iastore, 1) := by decide +kernel
theorem dX11_redeem_67 : decode cX11_redeem 67 = .ok (.aload_n 0, 1) := by decide +kernel
theorem dX11_redeem_68 : decode cX11_redeem 68 = .ok (.getfield 27, 3) := by decide +kernel
theorem dX11_redeem_71 : decode cX11_redeem 71 = .ok (.iload_n 1, 1) := by decide +kernel
theorem dX11_redeem_72 : decode cX11_redeem 72 = .ok (.dup2, 1) := by decide +kernel
theorem dX11_redeem_73 : decode cX11_redeem 73 = .ok (.iaload, 1) := by decide +kernel
theorem dX11_redeem_74 : decode cX11_redeem 74 = .ok (.iconst 1, 1) := by decide +kernel
theorem dX11_redeem_75 : decode cX11_redeem 75 = .ok (.iload_n 2, 1) := by decide +kernel
theorem dX11_redeem_76 : decode cX11_redeem 76 = .ok (.ishl, 1) := by decide +kernel
theorem dX11_redeem_77 : decode cX11_redeem 77 = .ok (.iconst (-1), 1) := by decide +kernel
theorem dX11_redeem_78 : decode cX11_redeem 78 = .ok (.ixor, 1) := by decide +kernel
theorem dX11_redeem_79 : decode cX11_redeem 79 = .ok (.iand, 1) := by decide +kernel
theorem dX11_redeem_80 : decode cX11_redeem 80 = .ok (.iastore, 1) := by decide +kernel
theorem dX11_redeem_81 : decode cX11_redeem 81 = .ok (.aload_n 0, 1) := by decide +kernel
theorem dX11_redeem_82 : decode cX11_redeem 82 = .ok (.getfield 15, 3) := by decide +kernel
theorem dX11_redeem_85 : decode cX11_redeem 85 = .ok (.iload_n 2, 1) := by decide +kernel
theorem dX11_redeem_86 : decode cX11_redeem 86 = .ok (.dup2, 1) := by decide +kernel
theorem dX11_redeem_87 : decode cX11_redeem 87 = .ok (.iaload, 1) := by decide +kernel
theorem dX11_redeem_88 : decode cX11_redeem 88 = .ok (.iconst 1, 1) := by decide +kernel
theorem dX11_redeem_89 : decode cX11_redeem 89 = .ok (.isub, 1) := by decide +kernel
theorem dX11_redeem_90 : decode cX11_redeem 90 = .ok (.iastore, 1) := by decide +kernel
theorem dX11_redeem_91 : decode cX11_redeem 91 = .ok (.aload_n 0, 1) := by decide +kernel
theorem dX11_redeem_92 : decode cX11_redeem 92 = .ok (.getfield 15, 3) := by decide +kernel
theorem dX11_redeem_95 : decode cX11_redeem 95 = .ok (.iload_n 2, 1) := by decide +kernel
theorem dX11_redeem_96 : decode cX11_redeem 96 = .ok (.iaload, 1) := by decide +kernel
theorem dX11_redeem_97 : decode cX11_redeem 97 = .ok (.ireturn, 1) := by decide +kernel
theorem dX11_row_0 : decode cX11_row 0 = .ok (.aload_n 0, 1) := by decide +kernel
theorem dX11_row_1 : decode cX11_row 1 = .ok (.iload_n 1, 1) := by decide +kernel
theorem dX11_row_2 : decode cX11_row 2 = .ok (.invokevirtual 118, 3) := by decide +kernel
theorem dX11_row_5 : decode cX11_row 5 = .ok (.ifCond .eq 12, 3) := by decide +kernel
theorem dX11_row_8 : decode cX11_row 8 = .ok (.iload_n 2, 1) := by decide +kernel
theorem dX11_row_9 : decode cX11_row 9 = .ok (.iconst 0, 1) := by decide +kernel
theorem dX11_row_10 : decode cX11_row 10 = .ok (.iconst 3, 1) := by decide +kernel
theorem dX11_row_11 : decode cX11_row 11 = .ok (.invokestatic 114, 3) := by decide +kernel
theorem dX11_row_14 : decode cX11_row 14 = .ok (.ifCond .ne 5, 3) := by decide +kernel
theorem dX11_row_17 : decode cX11_row 17 = .ok (.iconst (-1), 1) := by decide +kernel
theorem dX11_row_18 : decode cX11_row 18 = .ok (.ireturn, 1) := by decide +kernel
theorem dX11_row_19 : decode cX11_row 19 = .ok (.iload_n 3, 1) := by decide +kernel
theorem dX11_row_20 : decode cX11_row 20 = .ok (.iconst 0, 1) := by decide +kernel
theorem dX11_row_21 : decode cX11_row 21 = .ok (.bipush 9, 2) := by decide +kernel
theorem dX11_row_23 : decode cX11_row 23 = .ok (.invokestatic 114, 3) := by decide +kernel
theorem dX11_row_26 : decode cX11_row 26 = .ok (.ifCond .ne 6, 3) := by decide +kernel
theorem dX11_row_29 : decode cX11_row 29 = .ok (.bipush (-2), 2) := by decide +kernel
theorem dX11_row_31 : decode cX11_row 31 = .ok (.ireturn, 1) := by decide +kernel
theorem dX11_row_32 : decode cX11_row 32 = .ok (.aload_n 0, 1) := by decide +kernel
theorem dX11_row_33 : decode cX11_row 33 = .ok (.getfield 18, 3) := by decide +kernel
theorem dX11_row_36 : decode cX11_row 36 = .ok (.iload_n 1, 1) := by decide +kernel
theorem dX11_row_37 : decode cX11_row 37 = .ok (.iaload, 1) := by decide +kernel
theorem dX11_row_38 : decode cX11_row 38 = .ok (.bipush 6, 2) := by decide +kernel
theorem dX11_row_40 : decode cX11_row 40 = .ok (.if_icmp .eq 6, 3) := by decide +kernel
theorem dX11_row_43 : decode cX11_row 43 = .ok (.bipush (-3), 2) := by decide +kernel
theorem dX11_row_45 : decode cX11_row 45 = .ok (.ireturn, 1) := by decide +kernel
theorem dX11_row_46 : decode cX11_row 46 = .ok (.aload_n 0, 1) := by decide +kernel
theorem dX11_row_47 : decode cX11_row 47 = .ok (.getfield 33, 3) := by decide +kernel
theorem dX11_row_50 : decode cX11_row 50 = .ok (.iconst 4, 1) := by decide +kernel
theorem dX11_row_51 : decode cX11_row 51 = .ok (.iload_n 1, 1) := by decide +kernel
theorem dX11_row_52 : decode cX11_row 52 = .ok (.imul, 1) := by decide +kernel
theorem dX11_row_53 : decode cX11_row 53 = .ok (.iload_n 2, 1) := by decide +kernel
theorem dX11_row_54 : decode cX11_row 54 = .ok (.iadd, 1) := by decide +kernel
theorem dX11_row_55 : decode cX11_row 55 = .ok (.iaload, 1) := by decide +kernel
theorem dX11_row_56 : decode cX11_row 56 = .ok (.istore 4, 2) := by decide +kernel
theorem dX11_row_58 : decode cX11_row 58 = .ok (.aload_n 0, 1) := by decide +kernel
theorem dX11_row_59 : decode cX11_row 59 = .ok (.getfield 33, 3) := by decide +kernel
theorem dX11_row_62 : decode cX11_row 62 = .ok (.iconst 4, 1) := by decide +kernel
theorem dX11_row_63 : decode cX11_row 63 = .ok (.iload_n 1, 1) := by decide +kernel
theorem dX11_row_64 : decode cX11_row 64 = .ok (.imul, 1) := by decide +kernel
theorem dX11_row_65 : decode cX11_row 65 = .ok (.iload_n 2, 1) := by decide +kernel
theorem dX11_row_66 : decode cX11_row 66 = .ok (.iadd, 1) := by decide +kernel
theorem dX11_row_67 : decode cX11_row 67 = .ok (.iload_n 3, 1) := by decide +kernel
theorem dX11_row_68 : decode cX11_row 68 = .ok (.iastore, 1) := by decide +kernel
theorem dX11_row_69 : decode cX11_row 69 = .ok (.iload 4, 2) := by decide +kernel
theorem dX11_row_71 : decode cX11_row 71 = .ok (.ireturn, 1) := by decide +kernel
theorem dX11_feed_0 : decode cX11_feed 0 = .ok (.iload_n 1, 1) := by decide +kernel
theorem dX11_feed_1 : decode cX11_feed 1 = .ok (.iconst 0, 1) := by decide +kernel
theorem dX11_feed_2 : decode cX11_feed 2 = .ok (.bipush 127, 2) := by decide +kernel
theorem dX11_feed_4 : decode cX11_feed 4 = .ok (.invokestatic 114, 3) := by decide +kernel
theorem dX11_feed_7 : decode cX11_feed 7 = .ok (.ifCond .ne 6, 3) := by decide +kernel
theorem dX11_feed_10 : decode cX11_feed 10 = .ok (.bipush (-2), 2) := by decide +kernel
theorem dX11_feed_12 : decode cX11_feed 12 = .ok (.ireturn, 1) := by decide +kernel
theorem dX11_feed_13 : decode cX11_feed 13 = .ok (.aload_n 0, 1) := by decide +kernel
theorem dX11_feed_14 : decode cX11_feed 14 = .ok (.getfield 143, 3) := by decide +kernel
theorem dX11_feed_17 : decode cX11_feed 17 = .ok (.bipush 100, 2) := by decide +kernel
theorem dX11_feed_19 : decode cX11_feed 19 = .ok (.if_icmp .ne 6, 3) := by decide +kernel
theorem dX11_feed_22 : decode cX11_feed 22 = .ok (.bipush (-4), 2) := by decide +kernel
theorem dX11_feed_24 : decode cX11_feed 24 = .ok (.ireturn, 1) := by decide +kernel
theorem dX11_feed_25 : decode cX11_feed 25 = .ok (.aload_n 0, 1) := by decide +kernel
theorem dX11_feed_26 : decode cX11_feed 26 = .ok (.getfield 36, 3) := by decide +kernel
theorem dX11_feed_29 : decode cX11_feed 29 = .ok (.aload_n 0, 1) := by decide +kernel
theorem dX11_feed_30 : decode cX11_feed 30 = .ok (.dup, 1) := by decide +kernel
theorem dX11_feed_31 : decode cX11_feed 31 = .ok (.getfield 143, 3) := by decide +kernel
theorem dX11_feed_34 : decode cX11_feed 34 = .ok (.dup_x1, 1) := by decide +kernel
theorem dX11_feed_35 : decode cX11_feed 35 = .ok (.iconst 1, 1) := by decide +kernel
theorem dX11_feed_36 : decode cX11_feed 36 = .ok (.iadd, 1) := by decide +kernel
theorem dX11_feed_37 : decode cX11_feed 37 = .ok (.putfield 143, 3) := by decide +kernel
theorem dX11_feed_40 : decode cX11_feed 40 = .ok (.iload_n 1, 1) := by decide +kernel
theorem dX11_feed_41 : decode cX11_feed 41 = .ok (.iastore, 1) := by decide +kernel
theorem dX11_feed_42 : decode cX11_feed 42 = .ok (.aload_n 0, 1) := by decide +kernel
theorem dX11_feed_43 : decode cX11_feed 43 = .ok (.getfield 143, 3) := by decide +kernel
theorem dX11_feed_46 : decode cX11_feed 46 = .ok (.ireturn, 1) := by decide +kernel
theorem dX11_is_0 : decode cX11_is 0 = .ok (.aload_n 0, 1) := by decide +kernel
theorem dX11_is_1 : decode cX11_is 1 = .ok (.getfield 146, 3) := by decide +kernel
theorem dX11_is_4 : decode cX11_is 4 = .ok (.aload_n 0, 1) := by decide +kernel
theorem dX11_is_5 : decode cX11_is 5 = .ok (.getfield 143, 3) := by decide +kernel
theorem dX11_is_8 : decode cX11_is 8 = .ok (.if_icmp .eq 16, 3) := by decide +kernel
theorem dX11_is_11 : decode cX11_is 11 = .ok (.aload_n 0, 1) := by decide +kernel
theorem dX11_is_12 : decode cX11_is 12 = .ok (.getfield 36, 3) := by decide +kernel
theorem dX11_is_15 : decode cX11_is 15 = .ok (.aload_n 0, 1) := by decide +kernel
theorem dX11_is_16 : decode cX11_is 16 = .ok (.getfield 146, 3) := by decide +kernel
theorem dX11_is_19 : decode cX11_is 19 = .ok (.iaload, 1) := by decide +kernel
theorem dX11_is_20 : decode cX11_is 20 = .ok (.iload_n 1, 1) := by decide +kernel
theorem dX11_is_21 : decode cX11_is 21 = .ok (.if_icmp .eq 5, 3) := by decide +kernel
theorem dX11_is_24 : decode cX11_is 24 = .ok (.iconst 0, 1) := by decide +kernel
theorem dX11_is_25 : decode cX11_is 25 = .ok (.ireturn, 1) := by decide +kernel
theorem dX11_is_26 : decode cX11_is 26 = .ok (.aload_n 0, 1) := by decide +kernel
theorem dX11_is_27 : decode cX11_is 27 = .ok (.dup, 1) := by decide +kernel
theorem dX11_is_28 : decode cX11_is 28 = .ok (.getfield 146, 3) := by decide +kernel
theorem dX11_is_31 : decode cX11_is 31 = .ok (.iconst 1, 1) := by decide +kernel
theorem dX11_is_32 : decode cX11_is 32 = .ok (.iadd, 1) := by decide +kernel
theorem dX11_is_33 : decode cX11_is 33 = .ok (.putfield 146, 3) := by decide +kernel
theorem dX11_is_36 : decode cX11_is 36 = .ok (.iconst 1, 1) := by decide +kernel
theorem dX11_is_37 : decode cX11_is 37 = .ok (.ireturn, 1) := by decide +kernel
theorem dX11_isDigit_0 : decode cX11_isDigit 0 = .ok (.aload_n 0, 1) := by decide +kernel
theorem dX11_isDigit_1 : decode cX11_isDigit 1 = .ok (.getfield 146, 3) := by decide +kernel
theorem dX11_isDigit_4 : decode cX11_isDigit 4 = .ok (.aload_n 0, 1) := by decide +kernel
theorem dX11_isDigit_5 : decode cX11_isDigit 5 = .ok (.getfield 143, 3) := by decide +kernel
theorem dX11_isDigit_8 : decode cX11_isDigit 8 = .ok (.if_icmp .ge 35, 3) := by decide +kernel
theorem dX11_isDigit_11 : decode cX11_isDigit 11 = .ok (.aload_n 0, 1) := by decide +kernel
theorem dX11_isDigit_12 : decode cX11_isDigit 12 = .ok (.getfield 36, 3) := by decide +kernel
theorem dX11_isDigit_15 : decode cX11_isDigit 15 = .ok (.aload_n 0, 1) := by decide +kernel
theorem dX11_isDigit_16 : decode cX11_isDigit 16 = .ok (.getfield 146, 3) := by decide +kernel
theorem dX11_isDigit_19 : decode cX11_isDigit 19 = .ok (.iaload, 1) := by decide +kernel
theorem dX11_isDigit_20 : decode cX11_isDigit 20 = .ok (.bipush 48, 2) := by decide +kernel
theorem dX11_isDigit_22 : decode cX11_isDigit 22 = .ok (.if_icmp .lt 21, 3) := by decide +kernel
theorem dX11_isDigit_25 : decode cX11_isDigit 25 = .ok (.aload_n 0, 1) := by decide +kernel
theorem dX11_isDigit_26 : decode cX11_isDigit 26 = .ok (.getfield 36, 3) := by decide +kernel
theorem dX11_isDigit_29 : decode cX11_isDigit 29 = .ok (.aload_n 0, 1) := by decide +kernel
theorem dX11_isDigit_30 : decode cX11_isDigit 30 = .ok (.getfield 146, 3) := by decide +kernel
theorem dX11_isDigit_33 : decode cX11_isDigit 33 = .ok (.iaload, 1) := by decide +kernel
theorem dX11_isDigit_34 : decode cX11_isDigit 34 = .ok (.bipush 57, 2) := by decide +kernel
theorem dX11_isDigit_36 : decode cX11_isDigit 36 = .ok (.if_icmp .gt 7, 3) := by decide +kernel
theorem dX11_isDigit_39 : decode cX11_isDigit 39 = .ok (.iconst 1, 1) := by decide +kernel
theorem dX11_isDigit_40 : decode cX11_isDigit 40 = .ok (.goto 4, 3) := by decide +kernel
theorem dX11_isDigit_43 : decode cX11_isDigit 43 = .ok (.iconst 0, 1) := by decide +kernel
theorem dX11_isDigit_44 : decode cX11_isDigit 44 = .ok (.ireturn, 1) := by decide +kernel
theorem dX11_isNumber_0 : decode cX11_isNumber 0 = .ok (.aload_n 0, 1) := by decide +kernel
theorem dX11_isNumber_1 : decode cX11_isNumber 1 = .ok (.iconst 0, 1) := by decide +kernel
theorem dX11_isNumber_2 : decode cX11_isNumber 2 = .ok (.putfield 149, 3) := by decide +kernel
theorem dX11_isNumber_5 : decode cX11_isNumber 5 = .ok (.aload_n 0, 1) := by decide +kernel
theorem dX11_isNumber_6 : decode cX11_isNumber 6 = .ok (.iconst 0, 1) := by decide +kernel
theorem dX11_isNumber_7 : decode cX11_isNumber 7 = .ok (.putfield 152, 3) := by decide +kernel
theorem dX11_isNumber_10 : decode cX11_isNumber 10 = .ok (.aload_n 0, 1) := by decide +kernel
theorem dX11_isNumber_11 : decode cX11_isNumber 11 = .ok (.getfield 152, 3) := by decide +kernel
theorem dX11_isNumber_14 : decode cX11_isNumber 14 = .ok (.iconst 2, 1) := by decide +kernel
theorem dX11_isNumber_15 : decode cX11_isNumber 15 = .ok (.if_icmp .ge 57, 3) := by decide +kernel
theorem dX11_isNumber_18 : decode cX11_isNumber 18 = .ok (.aload_n 0, 1) := by decide +kernel
theorem dX11_isNumber_19 : decode cX11_isNumber 19 = .ok (.invokevirtual 155, 3) := by decide +kernel
theorem dX11_isNumber_22 : decode cX11_isNumber 22 = .ok (.ifCond .eq 50, 3) := by decide +kernel
theorem dX11_isNumber_25 : decode cX11_isNumber 25 = .ok (.aload_n 0, 1) := by decide +kernel
theorem dX11_isNumber_26 : decode cX11_isNumber 26 = .ok (.bipush 10, 2) := by decide +kernel
theorem dX11_isNumber_28 : decode cX11_isNumber 28 = .ok (.aload_n 0, 1) := by decide +kernel
theorem dX11_isNumber_29 : decode cX11_isNumber 29 = .ok (.getfield 149, 3) := by decide +kernel
theorem dX11_isNumber_32 : decode cX11_isNumber 32 = .ok (.imul, 1) := by decide +kernel
theorem dX11_isNumber_33 : decode cX11_isNumber 33 = .ok (.aload_n 0, 1) := by decide +kernel
theorem dX11_isNumber_34 : decode cX11_isNumber 34 = .ok (.getfield 36, 3) := by decide +kernel
theorem dX11_isNumber_37 : decode cX11_isNumber 37 = .ok (.aload_n 0, 1) := by decide +kernel
theorem dX11_isNumber_38 : decode cX11_isNumber 38 = .ok (.getfield 146, 3) := by decide +kernel
theorem dX11_isNumber_41 : decode cX11_isNumber 41 = .ok (.iaload, 1) := by decide +kernel
theorem dX11_isNumber_42 : decode cX11_isNumber 42 = .ok (.iadd, 1) := by decide +kernel
theorem dX11_isNumber_43 : decode cX11_isNumber 43 = .ok (.bipush 48, 2) := by decide +kernel
theorem dX11_isNumber_45 : decode cX11_isNumber 45 = .ok (.isub, 1) := by decide +kernel
theorem dX11_isNumber_46 : decode cX11_isNumber 46 = .ok (.putfield 149, 3) := by decide +kernel
theorem dX11_isNumber_49 : decode cX11_isNumber 49 = .ok (.aload_n 0, 1) := by decide +kernel
theorem dX11_isNumber_50 : decode cX11_isNumber 50 = .ok (.dup, 1) := by decide +kernel
theorem dX11_isNumber_51 : decode cX11_isNumber 51 = .ok (.getfield 146, 3) := by decide +kernel
theorem dX11_isNumber_54 : decode cX11_isNumber 54 = .ok (.iconst 1, 1) := by decide +kernel
theorem dX11_isNumber_55 : decode cX11_isNumber 55 = .ok (.iadd, 1) := by decide +kernel
theorem dX11_isNumber_56 : decode cX11_isNumber 56 = .ok (.putfield 146, 3) := by decide +kernel
theorem dX11_isNumber_59 : decode cX11_isNumber 59 = .ok (.aload_n 0, 1) := by decide +kernel
theorem dX11_isNumber_60 : decode cX11_isNumber 60 = .ok (.dup, 1) := by decide +kernel
theorem dX11_isNumber_61 : decode cX11_isNumber 61 = .ok (.getfield 152, 3) := by decide +kernel
theorem dX11_isNumber_64 : decode cX11_isNumber 64 = .ok (.iconst 1, 1) := by decide +kernel
theorem dX11_isNumber_65 : decode cX11_isNumber 65 = .ok (.iadd, 1) := by decide +kernel
theorem dX11_isNumber_66 : decode cX11_isNumber 66 = .ok (.putfield 152, 3) := by decide +kernel
theorem dX11_isNumber_69 : decode cX11_isNumber 69 = .ok (.goto (-59), 3) := by decide +kernel
theorem dX11_isNumber_72 : decode cX11_isNumber 72 = .ok (.aload_n 0, 1) := by decide +kernel
theorem dX11_isNumber_73 : decode cX11_isNumber 73 = .ok (.getfield 152, 3) := by decide +kernel
theorem dX11_isNumber_76 : decode cX11_isNumber 76 = .ok (.ifCond .le 7, 3) := by decide +kernel
theorem dX11_isNumber_79 : decode cX11_isNumber 79 = .ok (.iconst 1, 1) := by decide +kernel
theorem dX11_isNumber_80 : decode cX11_isNumber 80 = .ok (.goto 4, 3) := by decide +kernel
theorem dX11_isNumber_83 : decode cX11_isNumber 83 = .ok (.iconst 0, 1) := by decide +kernel
theorem dX11_isNumber_84 : decode cX11_isNumber 84 = .ok (.ireturn, 1) := by decide +kernel
theorem dX11_isAll_0 : decode cX11_isAll 0 = .ok (.iconst 0, 1) := by decide +kernel
theorem dX11_isAll_1 : decode cX11_isAll 1 = .ok (.istore_n 2, 1) := by decide +kernel
theorem dX11_isAll_2 : decode cX11_isAll 2 = .ok (.iload_n 2, 1) := by decide +kernel
theorem dX11_isAll_3 : decode cX11_isAll 3 = .ok (.aload_n 1, 1) := by decide +kernel
theorem dX11_isAll_4 : decode cX11_isAll 4 = .ok (.invokevirtual 159, 3) := by decide +kernel
theorem dX11_isAll_7 : decode cX11_isAll 7 = .ok (.if_icmp .ge 23, 3) := by decide +kernel
theorem dX11_isAll_10 : decode cX11_isAll 10 = .ok (.aload_n 0, 1) := by decide +kernel
theorem dX11_isAll_11 : decode cX11_isAll 11 = .ok (.aload_n 1, 1) := by decide +kernel
theorem dX11_isAll_12 : decode cX11_isAll 12 = .ok (.iload_n 2, 1) := by decide +kernel
theorem dX11_isAll_13 : decode cX11_isAll 13 = .ok (.invokevirtual 164, 3) := by decide +kernel
theorem dX11_isAll_16 : decode cX11_isAll 16 = .ok (.invokevirtual 168, 3) := by decide +kernel
theorem dX11_isAll_19 : decode cX11_isAll 19 = .ok (.ifCond .ne 5, 3) := by decide +kernel
theorem dX11_isAll_22 : decode cX11_isAll 22 = .ok (.iconst 0, 1) := by decide +kernel
theorem dX11_isAll_23 : decode cX11_isAll 23 = .ok (.ireturn, 1) := by decide +kernel
theorem dX11_isAll_24 : decode cX11_isAll 24 = .ok (.iinc 2 1, 3) := by decide +kernel
theorem dX11_isAll_27 : decode cX11_isAll 27 = .ok (.goto (-25), 3) := by decide +kernel
theorem dX11_isAll_30 : decode cX11_isAll 30 = .ok (.iconst 1, 1) := by decide +kernel
theorem dX11_isAll_31 : decode cX11_isAll 31 = .ok (.ireturn, 1) := by decide +kernel
theorem dX11_codes_0 : decode cX11_codes 0 = .ok (.aload_n 0, 1) := by decide +kernel
theorem dX11_codes_1 : decode cX11_codes 1 = .ok (.getfield 54, 3) := by decide +kernel
theorem dX11_codes_4 : decode cX11_codes 4 = .ok (.aload_n 0, 1) := by decide +kernel
theorem dX11_codes_5 : decode cX11_codes 5 = .ok (.dup, 1) := by decide +kernel
theorem dX11_codes_6 : decode cX11_codes 6 = .ok (.getfield 171, 3) := by decide +kernel
theorem dX11_codes_9 : decode cX11_codes 9 = .ok (.dup_x1, 1) := by decide +kernel
theorem dX11_codes_10 : decode cX11_codes 10 = .ok (.iconst 1, 1) := by decide +kernel
theorem dX11_codes_11 : decode cX11_codes 11 = .ok (.iadd, 1) := by decide +kernel
theorem dX11_codes_12 : decode cX11_codes 12 = .ok (.putfield 171, 3) := by decide +kernel
theorem dX11_codes_15 : decode cX11_codes 15 = .ok (.iload_n 1, 1) := by decide +kernel
theorem dX11_codes_16 : decode cX11_codes 16 = .ok (.iastore, 1) := by decide +kernel
theorem dX11_codes_17 : decode cX11_codes 17 = .ok (.iconst 1, 1) := by decide +kernel
theorem dX11_codes_18 : decode cX11_codes 18 = .ok (.ireturn, 1) := by decide +kernel
theorem dX11_isTest_0 : decode cX11_isTest 0 = .ok (.aload_n 0, 1) := by decide +kernel
theorem dX11_isTest_1 : decode cX11_isTest 1 = .ok (.getfield 146, 3) := by decide +kernel
theorem dX11_isTest_4 : decode cX11_isTest 4 = .ok (.aload_n 0, 1) := by decide +kernel
theorem dX11_isTest_5 : decode cX11_isTest 5 = .ok (.getfield 143, 3) := by decide +kernel
theorem dX11_isTest_8 : decode cX11_isTest 8 = .ok (.if_icmp .ge 32, 3) := by decide +kernel
theorem dX11_isTest_11 : decode cX11_isTest 11 = .ok (.aload_n 0, 1) := by decide +kernel
theorem dX11_isTest_12 : decode cX11_isTest 12 = .ok (.getfield 36, 3) := by decide +kernel
theorem dX11_isTest_15 : decode cX11_isTest 15 = .ok (.aload_n 0, 1) := by decide +kernel
theorem dX11_isTest_16 : decode cX11_isTest 16 = .ok (.getfield 146, 3) := by decide +kernel
theorem dX11_isTest_19 : decode cX11_isTest 19 = .ok (.iaload, 1) := by decide +kernel
theorem dX11_isTest_20 : decode cX11_isTest 20 = .ok (.ifCond .le 20, 3) := by decide +kernel
theorem dX11_isTest_23 : decode cX11_isTest 23 = .ok (.ldc 174, 2) := by decide +kernel
theorem dX11_isTest_25 : decode cX11_isTest 25 = .ok (.aload_n 0, 1) := by decide +kernel
theorem dX11_isTest_26 : decode cX11_isTest 26 = .ok (.getfield 36, 3) := by decide +kernel
theorem dX11_isTest_29 : decode cX11_isTest 29 = .ok (.aload_n 0, 1) := by decide +kernel
theorem dX11_isTest_30 : decode cX11_isTest 30 = .ok (.getfield 146, 3) := by decide +kernel
theorem dX11_isTest_33 : decode cX11_isTest 33 = .ok (.iaload, 1) := by decide +kernel
theorem dX11_isTest_34 : decode cX11_isTest 34 = .ok (.invokevirtual 176, 3) := by decide +kernel
theorem dX11_isTest_37 : decode cX11_isTest 37 = .ok (.goto 4, 3) := by decide +kernel
theorem dX11_isTest_40 : decode cX11_isTest 40 = .ok (.iconst (-1), 1) := by decide +kernel
theorem dX11_isTest_41 : decode cX11_isTest 41 = .ok (.istore_n 1, 1) := by decide +kernel
theorem dX11_isTest_42 : decode cX11_isTest 42 = .ok (.iload_n 1, 1) := by decide +kernel
theorem dX11_isTest_43 : decode cX11_isTest 43 = .ok (.ifCond .ge 5, 3) := by decide +kernel
theorem dX11_isTest_46 : decode cX11_isTest 46 = .ok (.iconst 0, 1) := by decide +kernel
theorem dX11_isTest_47 : decode cX11_isTest 47 = .ok (.ireturn, 1) := by decide +kernel
theorem dX11_isTest_48 : decode cX11_isTest 48 = .ok (.aload_n 0, 1) := by decide +kernel
theorem dX11_isTest_49 : decode cX11_isTest 49 = .ok (.dup, 1) := by decide +kernel
theorem dX11_isTest_50 : decode cX11_isTest 50 = .ok (.getfield 146, 3) := by decide +kernel
theorem dX11_isTest_53 : decode cX11_isTest 53 = .ok (.iconst 1, 1) := by decide +kernel
theorem dX11_isTest_54 : decode cX11_isTest 54 = .ok (.iadd, 1) := by decide +kernel
theorem dX11_isTest_55 : decode cX11_isTest 55 = .ok (.putfield 146, 3) := by decide +kernel
theorem dX11_isTest_58 : decode cX11_isTest 58 = .ok (.aload_n 0, 1) := by decide +kernel
theorem dX11_isTest_59 : decode cX11_isTest 59 = .ok (.getfield 146, 3) := by decide +kernel
theorem dX11_isTest_62 : decode cX11_isTest 62 = .ok (.aload_n 0, 1) := by decide +kernel
theorem dX11_isTest_63 : decode cX11_isTest 63 = .ok (.getfield 143, 3) := by decide +kernel
theorem dX11_isTest_66 : decode cX11_isTest 66 = .ok (.if_icmp .ge 32, 3) := by decide +kernel
theorem dX11_isTest_69 : decode cX11_isTest 69 = .ok (.aload_n 0, 1) := by decide +kernel
theorem dX11_isTest_70 : decode cX11_isTest 70 = .ok (.getfield 36, 3) := by decide +kernel
theorem dX11_isTest_73 : decode cX11_isTest 73 = .ok (.aload_n 0, 1) := by decide +kernel
theorem dX11_isTest_74 : decode cX11_isTest 74 = .ok (.getfield 146, 3) := by decide +kernel
theorem dX11_isTest_77 : decode cX11_isTest 77 = .ok (.iaload, 1) := by decide +kernel
theorem dX11_isTest_78 : decode cX11_isTest 78 = .ok (.ifCond .le 20, 3) := by decide +kernel
theorem dX11_isTest_81 : decode cX11_isTest 81 = .ok (.ldc 179, 2) := by decide +kernel
theorem dX11_isTest_83 : decode cX11_isTest 83 = .ok (.aload_n 0, 1) := by decide +kernel
theorem dX11_isTest_84 : decode cX11_isTest 84 = .ok (.getfield 36, 3) := by decide +kernel
theorem dX11_isTest_87 : decode cX11_isTest 87 = .ok (.aload_n 0, 1) := by decide +kernel
theorem dX11_isTest_88 : decode cX11_isTest 88 = .ok (.getfield 146, 3) := by decide +kernel
theorem dX11_isTest_91 : decode cX11_isTest 91 = .ok (.iaload, 1) := by decide +kernel
theorem dX11_isTest_92 : decode cX11_isTest 92 = .ok (.invokevirtual 176, 3) := by decide +kernel
theorem dX11_isTest_95 : decode cX11_isTest 95 = .ok (.goto 4, 3) := by decide +kernel
theorem dX11_isTest_98 : decode cX11_isTest 98 = .ok (.iconst (-1), 1) := by decide +kernel
theorem dX11_isTest_99 : decode cX11_isTest 99 = .ok (.istore_n 2, 1) := by decide +kernel
theorem dX11_isTest_100 : decode cX11_isTest 100 = .ok (.iload_n 2, 1) := by decide +kernel
theorem dX11_isTest_101 : decode cX11_isTest 101 = .ok (.ifCond .ge 5, 3) := by decide +kernel
theorem dX11_isTest_104 : decode cX11_isTest 104 = .ok (.iconst 0, 1) := by decide +kernel
theorem dX11_isTest_105 : decode cX11_isTest 105 = .ok (.ireturn, 1) := by decide +kernel
theorem dX11_isTest_106 : decode cX11_isTest 106 = .ok (.aload_n 0, 1) := by decide +kernel
theorem dX11_isTest_107 : decode cX11_isTest 107 = .ok (.dup, 1) := by decide +kernel
theorem dX11_isTest_108 : decode cX11_isTest 108 = .ok (.getfield 146, 3) := by decide +kernel
theorem dX11_isTest_111 : decode cX11_isTest 111 = .ok (.iconst 1, 1) := by decide +kernel
theorem dX11_isTest_112 : decode cX11_isTest 112 = .ok (.iadd, 1) := by decide +kernel
theorem dX11_isTest_113 : decode cX11_isTest 113 = .ok (.putfield 146, 3) := by decide +kernel
theorem dX11_isTest_116 : decode cX11_isTest 116 = .ok (.aload_n 0, 1) := by decide +kernel
theorem dX11_isTest_117 : decode cX11_isTest 117 = .ok (.invokevirtual 181, 3) := by decide +kernel
theorem dX11_isTest_120 : decode cX11_isTest 120 = .ok (.ifCond .eq 31, 3) := by decide +kernel
theorem dX11_isTest_123 : decode cX11_isTest 123 = .ok (.aload_n 0, 1) := by decide +kernel
theorem dX11_isTest_124 : decode cX11_isTest 124 = .ok (.iconst 3, 1) := by decide +kernel
theorem dX11_isTest_125 : decode cX11_isTest 125 = .ok (.sipush 300, 3) := by decide +kernel
theorem dX11_isTest_128 : decode cX11_isTest 128 = .ok (.iload_n 1, 1) := by decide +kernel
theorem dX11_isTest_129 : decode cX11_isTest 129 = .ok (.imul, 1) := by decide +kernel
theorem dX11_isTest_130 : decode cX11_isTest 130 = .ok (.iadd, 1) := by decide +kernel
theorem dX11_isTest_131 : decode cX11_isTest 131 = .ok (.bipush 100, 2) := by decide +kernel
theorem dX11_isTest_133 : decode cX11_isTest 133 = .ok (.iload_n 2, 1) := by decide +kernel
theorem dX11_isTest_134 : decode cX11_isTest 134 = .ok (.imul, 1) := by decide +kernel
theorem dX11_isTest_135 : decode cX11_isTest 135 = .ok (.iadd, 1) := by decide +kernel
theorem dX11_isTest_136 : decode cX11_isTest 136 = .ok (.aload_n 0, 1) := by decide +kernel
theorem dX11_isTest_137 : decode cX11_isTest 137 = .ok (.getfield 149, 3) := by decide +kernel
theorem dX11_isTest_140 : decode cX11_isTest 140 = .ok (.iadd, 1) := by decide +kernel
theorem dX11_isTest_141 : decode cX11_isTest 141 = .ok (.invokevirtual 184, 3) := by decide +kernel
theorem dX11_isTest_144 : decode cX11_isTest 144 = .ok (.ifCond .eq 7, 3) := by decide +kernel
theorem dX11_isTest_147 : decode cX11_isTest 147 = .ok (.iconst 1, 1) := by decide +kernel
theorem dX11_isTest_148 : decode cX11_isTest 148 = .ok (.goto 4, 3) := by decide +kernel
theorem dX11_isTest_151 : decode cX11_isTest 151 = .ok (.iconst 0, 1) := by decide +kernel
theorem dX11_isTest_152 : decode cX11_isTest 152 = .ok (.ireturn, 1) := by decide +kernel
theorem dX11_isOpened_0 : decode cX11_isOpened 0 = .ok (.aload_n 0, 1) := by decide +kernel
theorem dX11_isOpened_1 : decode cX11_isOpened 1 = .ok (.getfield 187, 3) := by decide +kernel
theorem dX11_isOpened_4 : decode cX11_isOpened 4 = .ok (.iconst 4, 1) := by decide +kernel
theorem dX11_isOpened_5 : decode cX11_isOpened 5 = .ok (.if_icmp .eq 11, 3) := by decide +kernel
theorem dX11_isOpened_8 : decode cX11_isOpened 8 = .ok (.aload_n 0, 1) := by decide +kernel
theorem dX11_isOpened_9 : decode cX11_isOpened 9 = .ok (.iload_n 1, 1) := by decide +kernel
theorem dX11_isOpened_10 : decode cX11_isOpened 10 = .ok (.invokevirtual 168, 3) := by decide +kernel
theorem dX11_isOpened_13 : decode cX11_isOpened 13 = .ok (.ifCond .ne 5, 3) := by decide +kernel
theorem dX11_isOpened_16 : decode cX11_isOpened 16 = .ok (.iconst 0, 1) := by decide +kernel
theorem dX11_isOpened_17 : decode cX11_isOpened 17 = .ok (.ireturn, 1) := by decide +kernel
theorem dX11_isOpened_18 : decode cX11_isOpened 18 = .ok (.aload_n 0, 1) := by decide +kernel
theorem dX11_isOpened_19 : decode cX11_isOpened 19 = .ok (.dup, 1) := by decide +kernel
theorem dX11_isOpened_20 : decode cX11_isOpened 20 = .ok (.getfield 187, 3) := by decide +kernel
theorem dX11_isOpened_23 : decode cX11_isOpened 23 = .ok (.iconst 1, 1) := by decide +kernel
theorem dX11_isOpened_24 : decode cX11_isOpened 24 = .ok (.iadd, 1) := by decide +kernel
theorem dX11_isOpened_25 : decode cX11_isOpened 25 = .ok (.putfield 187, 3) := by decide +kernel
theorem dX11_isOpened_28 : decode cX11_isOpened 28 = .ok (.iconst 1, 1) := by decide +kernel
theorem dX11_isOpened_29 : decode cX11_isOpened 29 = .ok (.ireturn, 1) := by decide +kernel
theorem dX11_isF_0 : decode cX11_isF 0 = .ok (.aload_n 0, 1) := by decide +kernel
theorem dX11_isF_1 : decode cX11_isF 1 = .ok (.bipush 33, 2) := by decide +kernel
theorem dX11_isF_3 : decode cX11_isF 3 = .ok (.invokevirtual 190, 3) := by decide +kernel
theorem dX11_isF_6 : decode cX11_isF 6 = .ok (.ifCond .eq 27, 3) := by decide +kernel
theorem dX11_isF_9 : decode cX11_isF 9 = .ok (.aload_n 0, 1) := by decide +kernel
theorem dX11_isF_10 : decode cX11_isF 10 = .ok (.invokevirtual 193, 3) := by decide +kernel
theorem dX11_isF_13 : decode cX11_isF 13 = .ok (.ifCond .eq 15, 3) := by decide +kernel
theorem dX11_isF_16 : decode cX11_isF 16 = .ok (.aload_n 0, 1) := by decide +kernel
theorem dX11_isF_17 : decode cX11_isF 17 = .ok (.iconst 0, 1) := by decide +kernel
theorem dX11_isF_18 : decode cX11_isF 18 = .ok (.invokevirtual 184, 3) := by decide +kernel
theorem dX11_isF_21 : decode cX11_isF 21 = .ok (.ifCond .eq 7, 3) := by decide +kernel
theorem dX11_isF_24 : decode cX11_isF 24 = .ok (.iconst 1, 1) := by decide +kernel
theorem dX11_isF_25 : decode cX11_isF 25 = .ok (.goto 4, 3) := by decide +kernel
theorem dX11_isF_28 : decode cX11_isF 28 = .ok (.iconst 0, 1) := by decide +kernel
theorem dX11_isF_29 : decode cX11_isF 29 = .ok (.istore_n 1, 1) := by decide +kernel
theorem dX11_isF_30 : decode cX11_isF 30 = .ok (.goto 42, 3) := by decide +kernel
theorem dX11_isF_33 : decode cX11_isF 33 = .ok (.aload_n 0, 1) := by decide +kernel
theorem dX11_isF_34 : decode cX11_isF 34 = .ok (.bipush 40, 2) := by decide +kernel
theorem dX11_isF_36 : decode cX11_isF 36 = .ok (.invokevirtual 190, 3) := by decide +kernel
theorem dX11_isF_39 : decode cX11_isF 39 = .ok (.ifCond .eq 28, 3) := by decide +kernel
theorem dX11_isF_42 : decode cX11_isF 42 = .ok (.aload_n 0, 1) := by decide +kernel
theorem dX11_isF_43 : decode cX11_isF 43 = .ok (.invokevirtual 196, 3) := by decide +kernel
theorem dX11_isF_46 : decode cX11_isF 46 = .ok (.ifCond .eq 16, 3) := by decide +kernel
theorem dX11_isF_49 : decode cX11_isF 49 = .ok (.aload_n 0, 1) := by decide +kernel
theorem dX11_isF_50 : decode cX11_isF 50 = .ok (.bipush 41, 2) := by decide +kernel
theorem dX11_isF_52 : decode cX11_isF 52 = .ok (.invokevirtual 168, 3) := by decide +kernel
theorem dX11_isF_55 : decode cX11_isF 55 = .ok (.ifCond .eq 7, 3) := by decide +kernel
theorem dX11_isF_58 : decode cX11_isF 58 = .ok (.iconst 1, 1) := by decide +kernel
theorem dX11_isF_59 : decode cX11_isF 59 = .ok (.goto 4, 3) := by decide +kernel
theorem dX11_isF_62 : decode cX11_isF 62 = .ok (.iconst 0, 1) := by decide +kernel
theorem dX11_isF_63 : decode cX11_isF 63 = .ok (.istore_n 1, 1) := by decide +kernel
theorem dX11_isF_64 : decode cX11_isF 64 = .ok (.goto 8, 3) := by decide +kernel
theorem dX11_isF_67 : decode cX11_isF 67 = .ok (.aload_n 0, 1) := by decide +kernel
theorem dX11_isF_68 : decode cX11_isF 68 = .ok (.invokevirtual 199, 3) := by decide +kernel
theorem dX11_isF_71 : decode cX11_isF 71 = .ok (.ireturn, 1) := by decide +kernel
theorem dX11_isF_72 : decode cX11_isF 72 = .ok (.aload_n 0, 1) := by decide +kernel
theorem dX11_isF_73 : decode cX11_isF 73 = .ok (.dup, 1) := by decide +kernel
theorem dX11_isF_74 : decode cX11_isF 74 = .ok (.getfield 187, 3) := by decide +kernel
theorem dX11_isF_77 : decode cX11_isF 77 = .ok (.iconst 1, 1) := by decide +kernel
theorem dX11_isF_78 : decode cX11_isF 78 = .ok (.isub, 1) := by decide +kernel
theorem dX11_isF_79 : decode cX11_isF 79 = .ok (.putfield 187, 3) := by decide +kernel
theorem dX11_isF_82 : decode cX11_isF 82 = .ok (.iload_n 1, 1) := by decide +kernel
theorem dX11_isF_83 : decode cX11_isF 83 = .ok (.ireturn, 1) := by decide +kernel
theorem dX11_isT_0 : decode cX11_isT 0 = .ok (.aload_n 0, 1) := by decide +kernel
theorem dX11_isT_1 : decode cX11_isT 1 = .ok (.invokevirtual 193, 3) := by decide +kernel
theorem dX11_isT_4 : decode cX11_isT 4 = .ok (.ifCond .ne 5, 3) := by decide +kernel
theorem dX11_isT_7 : decode cX11_isT 7 = .ok (.iconst 0, 1) := by decide +kernel
theorem dX11_isT_8 : decode cX11_isT 8 = .ok (.ireturn, 1) := by decide +kernel
theorem dX11_isT_9 : decode cX11_isT 9 = .ok (.aload_n 0, 1) := by decide +kernel
theorem dX11_isT_10 : decode cX11_isT 10 = .ok (.bipush 38, 2) := by decide +kernel
theorem dX11_isT_12 : decode cX11_isT 12 = .ok (.invokevirtual 168, 3) := by decide +kernel
theorem dX11_isT_15 : decode cX11_isT 15 = .ok (.ifCond .eq 20, 3) := by decide +kernel
theorem dX11_isT_18 : decode cX11_isT 18 = .ok (.aload_n 0, 1) := by decide +kernel
theorem dX11_isT_19 : decode cX11_isT 19 = .ok (.invokevirtual 193, 3) := by decide +kernel
theorem dX11_isT_22 : decode cX11_isT 22 = .ok (.ifCond .eq 11, 3) := by decide +kernel
theorem dX11_isT_25 : decode cX11_isT 25 = .ok (.aload_n 0, 1) := by decide +kernel
theorem dX11_isT_26 : decode cX11_isT 26 = .ok (.iconst 1, 1) := by decide +kernel
theorem dX11_isT_27 : decode cX11_isT 27 = .ok (.invokevirtual 184, 3) := by decide +kernel
theorem dX11_isT_30 : decode cX11_isT 30 = .ok (.ifCond .ne (-21), 3) := by decide +kernel
theorem dX11_isT_33 : decode cX11_isT 33 = .ok (.iconst 0, 1) := by decide +kernel
theorem dX11_isT_34 : decode cX11_isT 34 = .ok (.ireturn, 1) := by decide +kernel
theorem dX11_isT_35 : decode cX11_isT 35 = .ok (.iconst 1, 1) := by decide +kernel
theorem dX11_isT_36 : decode cX11_isT 36 = .ok (.ireturn, 1) := by decide +kernel
theorem dX11_isE_0 : decode cX11_isE 0 = .ok (.aload_n 0, 1) := by decide +kernel
theorem dX11_isE_1 : decode cX11_isE 1 = .ok (.invokevirtual 202, 3) := by decide +kernel
theorem dX11_isE_4 : decode cX11_isE 4 = .ok (.ifCond .ne 5, 3) := by decide +kernel
theorem dX11_isE_7 : decode cX11_isE 7 = .ok (.iconst 0, 1) := by decide +kernel
theorem dX11_isE_8 : decode cX11_isE 8 = .ok (.ireturn, 1) := by decide +kernel
theorem dX11_isE_9 : decode cX11_isE 9 = .ok (.aload_n 0, 1) := by decide +kernel
theorem dX11_isE_10 : decode cX11_isE 10 = .ok (.bipush 124, 2) := by decide +kernel
theorem dX11_isE_12 : decode cX11_isE 12 = .ok (.invokevirtual 168, 3) := by decide +kernel
theorem dX11_isE_15 : decode cX11_isE 15 = .ok (.ifCond .eq 20, 3) := by decide +kernel
theorem dX11_isE_18 : decode cX11_isE 18 = .ok (.aload_n 0, 1) := by decide +kernel
theorem dX11_isE_19 : decode cX11_isE 19 = .ok (.invokevirtual 202, 3) := by decide +kernel
theorem dX11_isE_22 : decode cX11_isE 22 = .ok (.ifCond .eq 11, 3) := by decide +kernel
theorem dX11_isE_25 : decode cX11_isE 25 = .ok (.aload_n 0, 1) := by decide +kernel
theorem dX11_isE_26 : decode cX11_isE 26 = .ok (.iconst 2, 1) := by decide +kernel
theorem dX11_isE_27 : decode cX11_isE 27 = .ok (.invokevirtual 184, 3) := by decide +kernel
theorem dX11_isE_30 : decode cX11_isE 30 = .ok (.ifCond .ne (-21), 3) := by decide +kernel
theorem dX11_isE_33 : decode cX11_isE 33 = .ok (.iconst 0, 1) := by decide +kernel
theorem dX11_isE_34 : decode cX11_isE 34 = .ok (.ireturn, 1) := by decide +kernel
theorem dX11_isE_35 : decode cX11_isE 35 = .ok (.iconst 1, 1) := by decide +kernel
theorem dX11_isE_36 : decode cX11_isE 36 = .ok (.ireturn, 1) := by decide +kernel
theorem dX11_isClause_0 : decode cX11_isClause 0 = .ok (.iconst (-1), 1) := by decide +kernel
theorem dX11_isClause_1 : decode cX11_isClause 1 = .ok (.istore_n 2, 1) := by decide +kernel
theorem dX11_isClause_2 : decode cX11_isClause 2 = .ok (.aload_n 0, 1) := by decide +kernel
theorem dX11_isClause_3 : decode cX11_isClause 3 = .ok (.getfield 146, 3) := by decide +kernel
theorem dX11_isClause_6 : decode cX11_isClause 6 = .ok (.aload_n 0, 1) := by decide +kernel
theorem dX11_isClause_7 : decode cX11_isClause 7 = .ok (.getfield 143, 3) := by decide +kernel
theorem dX11_isClause_10 : decode cX11_isClause 10 = .ok (.if_icmp .ge 59, 3) := by decide +kernel
theorem dX11_isClause_13 : decode cX11_isClause 13 = .ok (.aload_n 0, 1) := by decide +kernel
theorem dX11_isClause_14 : decode cX11_isClause 14 = .ok (.getfield 36, 3) := by decide +kernel
theorem dX11_isClause_17 : decode cX11_isClause 17 = .ok (.aload_n 0, 1) := by decide +kernel
theorem dX11_isClause_18 : decode cX11_isClause 18 = .ok (.getfield 146, 3) := by decide +kernel
theorem dX11_isClause_21 : decode cX11_isClause 21 = .ok (.iaload, 1) := by decide +kernel
theorem dX11_isClause_22 : decode cX11_isClause 22 = .ok (.bipush 102, 2) := by decide +kernel
theorem dX11_isClause_24 : decode cX11_isClause 24 = .ok (.if_icmp .ne 7, 3) := by decide +kernel
theorem dX11_isClause_27 : decode cX11_isClause 27 = .ok (.iconst 0, 1) := by decide +kernel
theorem dX11_isClause_28 : decode cX11_isClause 28 = .ok (.goto 40, 3) := by decide +kernel
theorem dX11_isClause_31 : decode cX11_isClause 31 = .ok (.aload_n 0, 1) := by decide +kernel
theorem dX11_isClause_32 : decode cX11_isClause 32 = .ok (.getfield 36, 3) := by decide +kernel
theorem dX11_isClause_35 : decode cX11_isClause 35 = .ok (.aload_n 0, 1) := by decide +kernel
theorem dX11_isClause_36 : decode cX11_isClause 36 = .ok (.getfield 146, 3) := by decide +kernel
theorem dX11_isClause_39 : decode cX11_isClause 39 = .ok (.iaload, 1) := by decide +kernel
theorem dX11_isClause_40 : decode cX11_isClause 40 = .ok (.bipush 108, 2) := by decide +kernel
theorem dX11_isClause_42 : decode cX11_isClause 42 = .ok (.if_icmp .ne 7, 3) := by decide +kernel
theorem dX11_isClause_45 : decode cX11_isClause 45 = .ok (.iconst 1, 1) := by decide +kernel
theorem dX11_isClause_46 : decode cX11_isClause 46 = .ok (.goto 22, 3) := by decide +kernel
theorem dX11_isClause_49 : decode cX11_isClause 49 = .ok (.aload_n 0, 1) := by decide +kernel
theorem dX11_isClause_50 : decode cX11_isClause 50 = .ok (.getfield 36, 3) := by decide +kernel
theorem dX11_isClause_53 : decode cX11_isClause 53 = .ok (.aload_n 0, 1) := by decide +kernel
theorem dX11_isClause_54 : decode cX11_isClause 54 = .ok (.getfield 146, 3) := by decide +kernel
theorem dX11_isClause_57 : decode cX11_isClause 57 = .ok (.iaload, 1) := by decide +kernel
theorem dX11_isClause_58 : decode cX11_isClause 58 = .ok (.bipush 107, 2) := by decide +kernel
theorem dX11_isClause_60 : decode cX11_isClause 60 = .ok (.if_icmp .ne 7, 3) := by decide +kernel
theorem dX11_isClause_63 : decode cX11_isClause 63 = .ok (.iconst 2, 1) := by decide +kernel
theorem dX11_isClause_64 : decode cX11_isClause 64 = .ok (.goto 4, 3) := by decide +kernel
theorem dX11_isClause_67 : decode cX11_isClause 67 = .ok (.iconst (-1), 1) := by decide +kernel
theorem dX11_isClause_68 : decode cX11_isClause 68 = .ok (.istore_n 2, 1) := by decide +kernel
theorem dX11_isClause_69 : decode cX11_isClause 69 = .ok (.iload_n 2, 1) := by decide +kernel
theorem dX11_isClause_70 : decode cX11_isClause 70 = .ok (.ifCond .ne 12, 3) := by decide +kernel
theorem dX11_isClause_73 : decode cX11_isClause 73 = .ok (.aload_n 0, 1) := by decide +kernel
theorem dX11_isClause_74 : decode cX11_isClause 74 = .ok (.ldc 205, 2) := by decide +kernel
theorem dX11_isClause_76 : decode cX11_isClause 76 = .ok (.invokevirtual 207, 3) := by decide +kernel
theorem dX11_isClause_79 : decode cX11_isClause 79 = .ok (.goto 36, 3) := by decide +kernel
theorem dX11_isClause_82 : decode cX11_isClause 82 = .ok (.iload_n 2, 1) := by decide +kernel
theorem dX11_isClause_83 : decode cX11_isClause 83 = .ok (.iconst 1, 1) := by decide +kernel
theorem dX11_isClause_84 : decode cX11_isClause 84 = .ok (.if_icmp .ne 12, 3) := by decide +kernel
theorem dX11_isClause_87 : decode cX11_isClause 87 = .ok (.aload_n 0, 1) := by decide +kernel
theorem dX11_isClause_88 : decode cX11_isClause 88 = .ok (.ldc 211, 2) := by decide +kernel
theorem dX11_isClause_90 : decode cX11_isClause 90 = .ok (.invokevirtual 207, 3) := by decide +kernel
theorem dX11_isClause_93 : decode cX11_isClause 93 = .ok (.goto 22, 3) := by decide +kernel
theorem dX11_isClause_96 : decode cX11_isClause 96 = .ok (.iload_n 2, 1) := by decide +kernel
theorem dX11_isClause_97 : decode cX11_isClause 97 = .ok (.iconst 2, 1) := by decide +kernel
theorem dX11_isClause_98 : decode cX11_isClause 98 = .ok (.if_icmp .ne 16, 3) := by decide +kernel
theorem dX11_isClause_101 : decode cX11_isClause 101 = .ok (.aload_n 0, 1) := by decide +kernel
theorem dX11_isClause_102 : decode cX11_isClause 102 = .ok (.ldc 213, 2) := by decide +kernel
theorem dX11_isClause_104 : decode cX11_isClause 104 = .ok (.invokevirtual 207, 3) := by decide +kernel
theorem dX11_isClause_107 : decode cX11_isClause 107 = .ok (.ifCond .eq 7, 3) := by decide +kernel
theorem dX11_isClause_110 : decode cX11_isClause 110 = .ok (.iconst 1, 1) := by decide +kernel
theorem dX11_isClause_111 : decode cX11_isClause 111 = .ok (.goto 4, 3) := by decide +kernel
theorem dX11_isClause_114 : decode cX11_isClause 114 = .ok (.iconst 0, 1) := by decide +kernel
theorem dX11_isClause_115 : decode cX11_isClause 115 = .ok (.istore_n 3, 1) := by decide +kernel
theorem dX11_isClause_116 : decode cX11_isClause 116 = .ok (.iload_n 3, 1) := by decide +kernel
theorem dX11_isClause_117 : decode cX11_isClause 117 = .ok (.ifCond .eq 10, 3) := by decide +kernel
theorem dX11_isClause_120 : decode cX11_isClause 120 = .ok (.aload_n 0, 1) := by decide +kernel
theorem dX11_isClause_121 : decode cX11_isClause 121 = .ok (.invokevirtual 181, 3) := by decide +kernel
theorem dX11_isClause_124 : decode cX11_isClause 124 = .ok (.ifCond .ne 5, 3) := by decide +kernel
theorem dX11_isClause_127 : decode cX11_isClause 127 = .ok (.iconst 0, 1) := by decide +kernel
theorem dX11_isClause_128 : decode cX11_isClause 128 = .ok (.ireturn, 1) := by decide +kernel
theorem dX11_isClause_129 : decode cX11_isClause 129 = .ok (.aload_n 0, 1) := by decide +kernel
theorem dX11_isClause_130 : decode cX11_isClause 130 = .ok (.getfield 42, 3) := by decide +kernel
theorem dX11_isClause_133 : decode cX11_isClause 133 = .ok (.iload_n 1, 1) := by decide +kernel
theorem dX11_isClause_134 : decode cX11_isClause 134 = .ok (.iload_n 2, 1) := by decide +kernel
theorem dX11_isClause_135 : decode cX11_isClause 135 = .ok (.iastore, 1) := by decide +kernel
theorem dX11_isClause_136 : decode cX11_isClause 136 = .ok (.aload_n 0, 1) := by decide +kernel
theorem dX11_isClause_137 : decode cX11_isClause 137 = .ok (.getfield 45, 3) := by decide +kernel
theorem dX11_isClause_140 : decode cX11_isClause 140 = .ok (.iload_n 1, 1) := by decide +kernel
theorem dX11_isClause_141 : decode cX11_isClause 141 = .ok (.aload_n 0, 1) := by decide +kernel
theorem dX11_isClause_142 : decode cX11_isClause 142 = .ok (.getfield 149, 3) := by decide +kernel
theorem dX11_isClause_145 : decode cX11_isClause 145 = .ok (.iastore, 1) := by decide +kernel
theorem dX11_isClause_146 : decode cX11_isClause 146 = .ok (.aload_n 0, 1) := by decide +kernel
theorem dX11_isClause_147 : decode cX11_isClause 147 = .ok (.getfield 48, 3) := by decide +kernel
theorem dX11_isClause_150 : decode cX11_isClause 150 = .ok (.iload_n 1, 1) := by decide +kernel
theorem dX11_isClause_151 : decode cX11_isClause 151 = .ok (.aload_n 0, 1) := by decide +kernel
theorem dX11_isClause_152 : decode cX11_isClause 152 = .ok (.getfield 171, 3) := by decide +kernel
theorem dX11_isClause_155 : decode cX11_isClause 155 = .ok (.iastore, 1) := by decide +kernel
theorem dX11_isClause_156 : decode cX11_isClause 156 = .ok (.aload_n 0, 1) := by decide +kernel
theorem dX11_isClause_157 : decode cX11_isClause 157 = .ok (.iconst 0, 1) := by decide +kernel
theorem dX11_isClause_158 : decode cX11_isClause 158 = .ok (.putfield 187, 3) := by decide +kernel
theorem dX11_isClause_161 : decode cX11_isClause 161 = .ok (.iload_n 2, 1) := by decide +kernel
theorem dX11_isClause_162 : decode cX11_isClause 162 = .ok (.iconst 2, 1) := by decide +kernel
theorem dX11_isClause_163 : decode cX11_isClause 163 = .ok (.if_icmp .ge 21, 3) := by decide +kernel
theorem dX11_isClause_166 : decode cX11_isClause 166 = .ok (.aload_n 0, 1) := by decide +kernel
theorem dX11_isClause_167 : decode cX11_isClause 167 = .ok (.bipush 32, 2) := by decide +kernel
theorem dX11_isClause_169 : decode cX11_isClause 169 = .ok (.invokevirtual 168, 3) := by decide +kernel
theorem dX11_isClause_172 : decode cX11_isClause 172 = .ok (.ifCond .eq 10, 3) := by decide +kernel
theorem dX11_isClause_175 : decode cX11_isClause 175 = .ok (.aload_n 0, 1) := by decide +kernel
theorem dX11_isClause_176 : decode cX11_isClause 176 = .ok (.invokevirtual 196, 3) := by decide +kernel
theorem dX11_isClause_179 : decode cX11_isClause 179 = .ok (.ifCond .ne 5, 3) := by decide +kernel
theorem dX11_isClause_182 : decode cX11_isClause 182 = .ok (.iconst 0, 1) := by decide +kernel
theorem dX11_isClause_183 : decode cX11_isClause 183 = .ok (.ireturn, 1) := by decide +kernel
theorem dX11_isClause_184 : decode cX11_isClause 184 = .ok (.aload_n 0, 1) := by decide +kernel
theorem dX11_isClause_185 : decode cX11_isClause 185 = .ok (.getfield 51, 3) := by decide +kernel
theorem dX11_isClause_188 : decode cX11_isClause 188 = .ok (.iload_n 1, 1) := by decide +kernel
theorem dX11_isClause_189 : decode cX11_isClause 189 = .ok (.aload_n 0, 1) := by decide +kernel
theorem dX11_isClause_190 : decode cX11_isClause 190 = .ok (.getfield 171, 3) := by decide +kernel
theorem dX11_isClause_193 : decode cX11_isClause 193 = .ok (.aload_n 0, 1) := by decide +kernel
theorem dX11_isClause_194 : decode cX11_isClause 194 = .ok (.getfield 48, 3) := by decide +kernel
theorem dX11_isClause_197 : decode cX11_isClause 197 = .ok (.iload_n 1, 1) := by decide +kernel
theorem dX11_isClause_198 : decode cX11_isClause 198 = .ok (.iaload, 1) := by decide +kernel
theorem dX11_isClause_199 : decode cX11_isClause 199 = .ok (.isub, 1) := by decide +kernel
theorem dX11_isClause_200 : decode cX11_isClause 200 = .ok (.iastore, 1) := by decide +kernel
theorem dX11_isClause_201 : decode cX11_isClause 201 = .ok (.iconst 1, 1) := by decide +kernel
theorem dX11_isClause_202 : decode cX11_isClause 202 = .ok (.ireturn, 1) := by decide +kernel
theorem dX11_house_0 : decode cX11_house 0 = .ok (.aload_n 0, 1) := by decide +kernel
theorem dX11_house_1 : decode cX11_house 1 = .ok (.getfield 215, 3) := by decide +kernel
theorem dX11_house_4 : decode cX11_house 4 = .ok (.bipush 6, 2) := by decide +kernel
theorem dX11_house_6 : decode cX11_house 6 = .ok (.if_icmp .ne 6, 3) := by decide +kernel
theorem dX11_house_9 : decode cX11_house 9 = .ok (.bipush (-4), 2) := by decide +kernel
theorem dX11_house_11 : decode cX11_house 11 = .ok (.ireturn, 1) := by decide +kernel
theorem dX11_house_12 : decode cX11_house 12 = .ok (.aload_n 0, 1) := by decide +kernel
theorem dX11_house_13 : decode cX11_house 13 = .ok (.getfield 171, 3) := by decide +kernel
theorem dX11_house_16 : decode cX11_house 16 = .ok (.istore_n 1, 1) := by decide +kernel
theorem dX11_house_17 : decode cX11_house 17 = .ok (.aload_n 0, 1) := by decide +kernel
theorem dX11_house_18 : decode cX11_house 18 = .ok (.iconst 0, 1) := by decide +kernel
theorem dX11_house_19 : decode cX11_house 19 = .ok (.putfield 146, 3) := by decide +kernel
theorem dX11_house_22 : decode cX11_house 22 = .ok (.iconst 0, 1) := by decide +kernel
theorem dX11_house_23 : decode cX11_house 23 = .ok (.istore_n 2, 1) := by decide +kernel
theorem dX11_house_24 : decode cX11_house 24 = .ok (.iconst 1, 1) := by decide +kernel
theorem dX11_house_25 : decode cX11_house 25 = .ok (.istore_n 3, 1) := by decide +kernel
theorem dX11_house_26 : decode cX11_house 26 = .ok (.iconst 0, 1) := by decide +kernel
theorem dX11_house_27 : decode cX11_house 27 = .ok (.istore 4, 2) := by decide +kernel
theorem dX11_house_29 : decode cX11_house 29 = .ok (.iload_n 3, 1) := by decide +kernel
theorem dX11_house_30 : decode cX11_house 30 = .ok (.ifCond .eq 93, 3) := by decide +kernel
theorem dX11_house_33 : decode cX11_house 33 = .ok (.iload 4, 2) := by decide +kernel
theorem dX11_house_35 : decode cX11_house 35 = .ok (.ifCond .ne 88, 3) := by decide +kernel
theorem dX11_house_38 : decode cX11_house 38 = .ok (.iload_n 2, 1) := by decide +kernel
theorem dX11_house_39 : decode cX11_house 39 = .ok (.bipush 10, 2) := by decide +kernel
theorem dX11_house_41 : decode cX11_house 41 = .ok (.if_icmp .ge 23, 3) := by decide +kernel
theorem dX11_house_44 : decode cX11_house 44 = .ok (.aload_n 0, 1) := by decide +kernel
theorem dX11_house_45 : decode cX11_house 45 = .ok (.bipush 10, 2) := by decide +kernel
theorem dX11_house_47 : decode cX11_house 47 = .ok (.aload_n 0, 1) := by decide +kernel
theorem dX11_house_48 : decode cX11_house 48 = .ok (.getfield 215, 3) := by decide +kernel
theorem dX11_house_51 : decode cX11_house 51 = .ok (.imul, 1) := by decide +kernel
theorem dX11_house_52 : decode cX11_house 52 = .ok (.iload_n 2, 1) := by decide +kernel
theorem dX11_house_53 : decode cX11_house 53 = .ok (.iadd, 1) := by decide +kernel
theorem dX11_house_54 : decode cX11_house 54 = .ok (.invokevirtual 218, 3) := by decide +kernel
theorem dX11_house_57 : decode cX11_house 57 = .ok (.ifCond .eq 7, 3) := by decide +kernel
theorem dX11_house_60 : decode cX11_house 60 = .ok (.iconst 1, 1) := by decide +kernel
theorem dX11_house_61 : decode cX11_house 61 = .ok (.goto 4, 3) := by decide +kernel
theorem dX11_house_64 : decode cX11_house 64 = .ok (.iconst 0, 1) := by decide +kernel
theorem dX11_house_65 : decode cX11_house 65 = .ok (.istore_n 3, 1) := by decide +kernel
theorem dX11_house_66 : decode cX11_house 66 = .ok (.iload_n 3, 1) := by decide +kernel
theorem dX11_house_67 : decode cX11_house 67 = .ok (.ifCond .ne 6, 3) := by decide +kernel
theorem dX11_house_70 : decode cX11_house 70 = .ok (.goto (-41), 3) := by decide +kernel
theorem dX11_house_73 : decode cX11_house 73 = .ok (.iinc 2 1, 3) := by decide +kernel
theorem dX11_house_76 : decode cX11_house 76 = .ok (.aload_n 0, 1) := by decide +kernel
theorem dX11_house_77 : decode cX11_house 77 = .ok (.getfield 146, 3) := by decide +kernel
theorem dX11_house_80 : decode cX11_house 80 = .ok (.aload_n 0, 1) := by decide +kernel
theorem dX11_house_81 : decode cX11_house 81 = .ok (.getfield 143, 3) := by decide +kernel
theorem dX11_house_84 : decode cX11_house 84 = .ok (.if_icmp .ne 7, 3) := by decide +kernel
theorem dX11_house_87 : decode cX11_house 87 = .ok (.iconst 1, 1) := by decide +kernel
theorem dX11_house_88 : decode cX11_house 88 = .ok (.goto 4, 3) := by decide +kernel
theorem dX11_house_91 : decode cX11_house 91 = .ok (.iconst 0, 1) := by decide +kernel
theorem dX11_house_92 : decode cX11_house 92 = .ok (.istore 4, 2) := by decide +kernel
theorem dX11_house_94 : decode cX11_house 94 = .ok (.iload 4, 2) := by decide +kernel
theorem dX11_house_96 : decode cX11_house 96 = .ok (.ifCond .ne 18, 3) := by decide +kernel
theorem dX11_house_99 : decode cX11_house 99 = .ok (.iload_n 2, 1) := by decide +kernel
theorem dX11_house_100 : decode cX11_house 100 = .ok (.bipush 10, 2) := by decide +kernel
theorem dX11_house_102 : decode cX11_house 102 = .ok (.if_icmp .ge 16, 3) := by decide +kernel
theorem dX11_house_105 : decode cX11_house 105 = .ok (.aload_n 0, 1) := by decide +kernel
theorem dX11_house_106 : decode cX11_house 106 = .ok (.bipush 59, 2) := by decide +kernel
theorem dX11_house_108 : decode cX11_house 108 = .ok (.invokevirtual 168, 3) := by decide +kernel
theorem dX11_house_111 : decode cX11_house 111 = .ok (.ifCond .eq 7, 3) := by decide +kernel
theorem dX11_house_114 : decode cX11_house 114 = .ok (.iconst 1, 1) := by decide +kernel
theorem dX11_house_115 : decode cX11_house 115 = .ok (.goto 4, 3) := by decide +kernel
theorem dX11_house_118 : decode cX11_house 118 = .ok (.iconst 0, 1) := by decide +kernel
theorem dX11_house_119 : decode cX11_house 119 = .ok (.istore_n 3, 1) := by decide +kernel
theorem dX11_house_120 : decode cX11_house 120 = .ok (.goto (-91), 3) := by decide +kernel
theorem dX11_house_123 : decode cX11_house 123 = .ok (.aload_n 0, 1) := by decide +kernel
theorem dX11_house_124 : decode cX11_house 124 = .ok (.iconst 0, 1) := by decide +kernel
theorem dX11_house_125 : decode cX11_house 125 = .ok (.putfield 143, 3) := by decide +kernel
theorem dX11_house_128 : decode cX11_house 128 = .ok (.iload 4, 2) := by decide +kernel
theorem dX11_house_130 : decode cX11_house 130 = .ok (.ifCond .ne 16, 3) := by decide +kernel
theorem dX11_house_133 : decode cX11_house 133 = .ok (.aload_n 0, 1) := by decide +kernel
theorem dX11_house_134 : decode cX11_house 134 = .ok (.iload_n 1, 1) := by decide +kernel
theorem dX11_house_135 : decode cX11_house 135 = .ok (.putfield 171, 3) := by decide +kernel
theorem dX11_house_138 : decode cX11_house 138 = .ok (.bipush (-10), 2) := by decide +kernel
theorem dX11_house_140 : decode cX11_house 140 = .ok (.aload_n 0, 1) := by decide +kernel
theorem dX11_house_141 : decode cX11_house 141 = .ok (.getfield 146, 3) := by decide +kernel
theorem dX11_house_144 : decode cX11_house 144 = .ok (.isub, 1) := by decide +kernel
theorem dX11_house_145 : decode cX11_house 145 = .ok (.ireturn, 1) := by decide +kernel
theorem dX11_house_146 : decode cX11_house 146 = .ok (.aload_n 0, 1) := by decide +kernel
theorem dX11_house_147 : decode cX11_house 147 = .ok (.getfield 39, 3) := by decide +kernel
theorem dX11_house_150 : decode cX11_house 150 = .ok (.aload_n 0, 1) := by decide +kernel
theorem dX11_house_151 : decode cX11_house 151 = .ok (.getfield 215, 3) := by decide +kernel
theorem dX11_house_154 : decode cX11_house 154 = .ok (.iload_n 2, 1) := by decide +kernel
theorem dX11_house_155 : decode cX11_house 155 = .ok (.iastore, 1) := by decide +kernel
theorem dX11_house_156 : decode cX11_house 156 = .ok (.aload_n 0, 1) := by decide +kernel
theorem dX11_house_157 : decode cX11_house 157 = .ok (.aload_n 0, 1) := by decide +kernel
theorem dX11_house_158 : decode cX11_house 158 = .ok (.getfield 215, 3) := by decide +kernel
theorem dX11_house_161 : decode cX11_house 161 = .ok (.putfield 107, 3) := by decide +kernel
theorem dX11_house_164 : decode cX11_house 164 = .ok (.aload_n 0, 1) := by decide +kernel
theorem dX11_house_165 : decode cX11_house 165 = .ok (.dup, 1) := by decide +kernel
theorem dX11_house_166 : decode cX11_house 166 = .ok (.getfield 215, 3) := by decide +kernel
theorem dX11_house_169 : decode cX11_house 169 = .ok (.dup_x1, 1) := by decide +kernel
theorem dX11_house_170 : decode cX11_house 170 = .ok (.iconst 1, 1) := by decide +kernel
theorem dX11_house_171 : decode cX11_house 171 = .ok (.iadd, 1) := by decide +kernel
theorem dX11_house_172 : decode cX11_house 172 = .ok (.putfield 215, 3) := by decide +kernel
theorem dX11_house_175 : decode cX11_house 175 = .ok (.ireturn, 1) := by decide +kernel
theorem dX11_letterOf_0 : decode cX11_letterOf 0 = .ok (.iload_n 3, 1) := by decide +kernel
theorem dX11_letterOf_1 : decode cX11_letterOf 1 = .ok (.tableswitch 60 0 4 #[35, 37, 44, 51, 53], 35) := by decide +kernel
theorem dX11_letterOf_36 : decode cX11_letterOf 36 = .ok (.iload_n 1, 1) := by decide +kernel
theorem dX11_letterOf_37 : decode cX11_letterOf 37 = .ok (.ireturn, 1) := by decide +kernel
theorem dX11_letterOf_38 : decode cX11_letterOf 38 = .ok (.aload_n 0, 1) := by decide +kernel
theorem dX11_letterOf_39 : decode cX11_letterOf 39 = .ok (.getfield 18, 3) := by decide +kernel
theorem dX11_letterOf_42 : decode cX11_letterOf 42 = .ok (.iload_n 1, 1) := by decide +kernel
theorem dX11_letterOf_43 : decode cX11_letterOf 43 = .ok (.iaload, 1) := by decide +kernel
theorem dX11_letterOf_44 : decode cX11_letterOf 44 = .ok (.ireturn, 1) := by decide +kernel
theorem dX11_letterOf_45 : decode cX11_letterOf 45 = .ok (.aload_n 0, 1) := by decide +kernel
theorem dX11_letterOf_46 : decode cX11_letterOf 46 = .ok (.getfield 21, 3) := by decide +kernel
theorem dX11_letterOf_49 : decode cX11_letterOf 49 = .ok (.iload_n 1, 1) := by decide +kernel
theorem dX11_letterOf_50 : decode cX11_letterOf 50 = .ok (.iaload, 1) := by decide +kernel
theorem dX11_letterOf_51 : decode cX11_letterOf 51 = .ok (.ireturn, 1) := by decide +kernel
theorem dX11_letterOf_52 : decode cX11_letterOf 52 = .ok (.iload_n 2, 1) := by decide +kernel
theorem dX11_letterOf_53 : decode cX11_letterOf 53 = .ok (.ireturn, 1) := by decide +kernel
theorem dX11_letterOf_54 : decode cX11_letterOf 54 = .ok (.aload_n 0, 1) := by decide +kernel
theorem dX11_letterOf_55 : decode cX11_letterOf 55 = .ok (.getfield 9, 3) := by decide +kernel
theorem dX11_letterOf_58 : decode cX11_letterOf 58 = .ok (.iload_n 2, 1) := by decide +kernel
theorem dX11_letterOf_59 : decode cX11_letterOf 59 = .ok (.iaload, 1) := by decide +kernel
theorem dX11_letterOf_60 : decode cX11_letterOf 60 = .ok (.ireturn, 1) := by decide +kernel
theorem dX11_letterOf_61 : decode cX11_letterOf 61 = .ok (.aload_n 0, 1) := by decide +kernel
theorem dX11_letterOf_62 : decode cX11_letterOf 62 = .ok (.getfield 221, 3) := by decide +kernel
theorem dX11_letterOf_65 : decode cX11_letterOf 65 = .ok (.bipush 10, 2) := by decide +kernel
theorem dX11_letterOf_67 : decode cX11_letterOf 67 = .ok (.irem, 1) := by decide +kernel
theorem dX11_letterOf_68 : decode cX11_letterOf 68 = .ok (.ireturn, 1) := by decide +kernel
theorem dX11_isTrue_0 : decode cX11_isTrue 0 = .ok (.iconst 0, 1) := by decide +kernel
theorem dX11_isTrue_1 : decode cX11_isTrue 1 = .ok (.istore 4, 2) := by decide +kernel
theorem dX11_isTrue_3 : decode cX11_isTrue 3 = .ok (.aload_n 0, 1) := by decide +kernel
theorem dX11_isTrue_4 : decode cX11_isTrue 4 = .ok (.getfield 48, 3) := by decide +kernel
theorem dX11_isTrue_7 : decode cX11_isTrue 7 = .ok (.iload_n 3, 1) := by decide +kernel
theorem dX11_isTrue_8 : decode cX11_isTrue 8 = .ok (.iaload, 1) := by decide +kernel
theorem dX11_isTrue_9 : decode cX11_isTrue 9 = .ok (.istore 5, 2) := by decide +kernel
theorem dX11_isTrue_11 : decode cX11_isTrue 11 = .ok (.iload 5, 2) := by decide +kernel
theorem dX11_isTrue_13 : decode cX11_isTrue 13 = .ok (.aload_n 0, 1) := by decide +kernel
theorem dX11_isTrue_14 : decode cX11_isTrue 14 = .ok (.getfield 48, 3) := by decide +kernel
theorem dX11_isTrue_17 : decode cX11_isTrue 17 = .ok (.iload_n 3, 1) := by decide +kernel
theorem dX11_isTrue_18 : decode cX11_isTrue 18 = .ok (.iaload, 1) := by decide +kernel
theorem dX11_isTrue_19 : decode cX11_isTrue 19 = .ok (.aload_n 0, 1) := by decide +kernel
theorem dX11_isTrue_20 : decode cX11_isTrue 20 = .ok (.getfield 51, 3) := by decide +kernel
theorem dX11_isTrue_23 : decode cX11_isTrue 23 = .ok (.iload_n 3, 1) := by decide +kernel
theorem dX11_isTrue_24 : decode cX11_isTrue 24 = .ok (.iaload, 1) := by decide +kernel
theorem dX11_isTrue_25 : decode cX11_isTrue 25 = .ok (.iadd, 1) := by decide +kernel
theorem dX11_isTrue_26 : decode cX11_isTrue 26 = .ok (.if_icmp .ge 235, 3) := by decide +kernel
theorem dX11_isTrue_29 : decode cX11_isTrue 29 = .ok (.aload_n 0, 1) := by decide +kernel
theorem dX11_isTrue_30 : decode cX11_isTrue 30 = .ok (.getfield 54, 3) := by decide +kernel
theorem dX11_isTrue_33 : decode cX11_isTrue 33 = .ok (.iload 5, 2) := by decide +kernel
theorem dX11_isTrue_35 : decode cX11_isTrue 35 = .ok (.iaload, 1) := by decide +kernel
theorem dX11_isTrue_36 : decode cX11_isTrue 36 = .ok (.istore 6, 2) := by decide +kernel
theorem dX11_isTrue_38 : decode cX11_isTrue 38 = .ok (.iload 6, 2) := by decide +kernel
theorem dX11_isTrue_40 : decode cX11_isTrue 40 = .ok (.iconst 3, 1) := by decide +kernel
theorem dX11_isTrue_41 : decode cX11_isTrue 41 = .ok (.if_icmp .lt 105, 3) := by decide +kernel
theorem dX11_isTrue_44 : decode cX11_isTrue 44 = .ok (.aload_n 0, 1) := by decide +kernel
theorem dX11_isTrue_45 : decode cX11_isTrue 45 = .ok (.iload_n 1, 1) := by decide +kernel
theorem dX11_isTrue_46 : decode cX11_isTrue 46 = .ok (.iload_n 2, 1) := by decide +kernel
theorem dX11_isTrue_47 : decode cX11_isTrue 47 = .ok (.iload 6, 2) := by decide +kernel
theorem dX11_isTrue_49 : decode cX11_isTrue 49 = .ok (.iconst 3, 1) := by decide +kernel
theorem dX11_isTrue_50 : decode cX11_isTrue 50 = .ok (.isub, 1) := by decide +kernel
theorem dX11_isTrue_51 : decode cX11_isTrue 51 = .ok (.sipush 300, 3) := by decide +kernel
theorem dX11_isTrue_54 : decode cX11_isTrue 54 = .ok (.idiv, 1) := by decide +kernel
theorem dX11_isTrue_55 : decode cX11_isTrue 55 = .ok (.invokevirtual 224, 3) := by decide +kernel
theorem dX11_isTrue_58 : decode cX11_isTrue 58 = .ok (.istore 7, 2) := by decide +kernel
theorem dX11_isTrue_60 : decode cX11_isTrue 60 = .ok (.iload 6, 2) := by decide +kernel
theorem dX11_isTrue_62 : decode cX11_isTrue 62 = .ok (.iconst 3, 1) := by decide +kernel
theorem dX11_isTrue_63 : decode cX11_isTrue 63 = .ok (.isub, 1) := by decide +kernel
theorem dX11_isTrue_64 : decode cX11_isTrue 64 = .ok (.bipush 100, 2) := by decide +kernel
theorem dX11_isTrue_66 : decode cX11_isTrue 66 = .ok (.irem, 1) := by decide +kernel
theorem dX11_isTrue_67 : decode cX11_isTrue 67 = .ok (.istore 8, 2) := by decide +kernel
theorem dX11_isTrue_69 : decode cX11_isTrue 69 = .ok (.iload 6, 2) := by decide +kernel
theorem dX11_isTrue_71 : decode cX11_isTrue 71 = .ok (.iconst 3, 1) := by decide +kernel
theorem dX11_isTrue_72 : decode cX11_isTrue 72 = .ok (.isub, 1) := by decide +kernel
theorem dX11_isTrue_73 : decode cX11_isTrue 73 = .ok (.bipush 100, 2) := by decide +kernel
theorem dX11_isTrue_75 : decode cX11_isTrue 75 = .ok (.idiv, 1) := by decide +kernel
theorem dX11_isTrue_76 : decode cX11_isTrue 76 = .ok (.iconst 3, 1) := by decide +kernel
theorem dX11_isTrue_77 : decode cX11_isTrue 77 = .ok (.irem, 1) := by decide +kernel
theorem dX11_isTrue_78 : decode cX11_isTrue 78 = .ok (.istore 9, 2) := by decide +kernel
theorem dX11_isTrue_80 : decode cX11_isTrue 80 = .ok (.aload_n 0, 1) := by decide +kernel
theorem dX11_isTrue_81 : decode cX11_isTrue 81 = .ok (.getfield 57, 3) := by decide +kernel
theorem dX11_isTrue_84 : decode cX11_isTrue 84 = .ok (.iload 4, 2) := by decide +kernel
theorem dX11_isTrue_86 : decode cX11_isTrue 86 = .ok (.iinc 4 1, 3) := by decide +kernel
theorem dX11_isTrue_89 : decode cX11_isTrue 89 = .ok (.iload 9, 2) := by decide +kernel
theorem dX11_isTrue_91 : decode cX11_isTrue 91 = .ok (.ifCond .ne 18, 3) := by decide +kernel
theorem dX11_isTrue_94 : decode cX11_isTrue 94 = .ok (.iload 7, 2) := by decide +kernel
theorem dX11_isTrue_96 : decode cX11_isTrue 96 = .ok (.iload 8, 2) := by decide +kernel
theorem dX11_isTrue_98 : decode cX11_isTrue 98 = .ok (.if_icmp .ge 7, 3) := by decide +kernel
theorem dX11_isTrue_101 : decode cX11_isTrue 101 = .ok (.iconst 1, 1) := by decide +kernel
theorem dX11_isTrue_102 : decode cX11_isTrue 102 = .ok (.goto 40, 3) := by decide +kernel
theorem dX11_isTrue_105 : decode cX11_isTrue 105 = .ok (.iconst 0, 1) := by decide +kernel
theorem dX11_isTrue_106 : decode cX11_isTrue 106 = .ok (.goto 36, 3) := by decide +kernel
theorem dX11_isTrue_109 : decode cX11_isTrue 109 = .ok (.iload 9, 2) := by decide +kernel
theorem dX11_isTrue_111 : decode cX11_isTrue 111 = .ok (.iconst 1, 1) := by decide +kernel
theorem dX11_isTrue_112 : decode cX11_isTrue 112 = .ok (.if_icmp .ne 18, 3) := by decide +kernel
theorem dX11_isTrue_115 : decode cX11_isTrue 115 = .ok (.iload 7, 2) := by decide +kernel
theorem dX11_isTrue_117 : decode cX11_isTrue 117 = .ok (.iload 8, 2) := by decide +kernel
theorem dX11_isTrue_119 : decode cX11_isTrue 119 = .ok (.if_icmp .ne 7, 3) := by decide +kernel
theorem dX11_isTrue_122 : decode cX11_isTrue 122 = .ok (.iconst 1, 1) := by decide +kernel
theorem dX11_isTrue_123 : decode cX11_isTrue 123 = .ok (.goto 19, 3) := by decide +kernel
theorem dX11_isTrue_126 : decode cX11_isTrue 126 = .ok (.iconst 0, 1) := by decide +kernel
theorem dX11_isTrue_127 : decode cX11_isTrue 127 = .ok (.goto 15, 3) := by decide +kernel
theorem dX11_isTrue_130 : decode cX11_isTrue 130 = .ok (.iload 7, 2) := by decide +kernel
theorem dX11_isTrue_132 : decode cX11_isTrue 132 = .ok (.iload 8, 2) := by decide +kernel
theorem dX11_isTrue_134 : decode cX11_isTrue 134 = .ok (.if_icmp .le 7, 3) := by decide +kernel
theorem dX11_isTrue_137 : decode cX11_isTrue 137 = .ok (.iconst 1, 1) := by decide +kernel
theorem dX11_isTrue_138 : decode cX11_isTrue 138 = .ok (.goto 4, 3) := by decide +kernel
theorem dX11_isTrue_141 : decode cX11_isTrue 141 = .ok (.iconst 0, 1) := by decide +kernel
theorem dX11_isTrue_142 : decode cX11_isTrue 142 = .ok (.bastore, 1) := by decide +kernel
theorem dX11_isTrue_143 : decode cX11_isTrue 143 = .ok (.goto 112, 3) := by decide +kernel
theorem dX11_isTrue_146 : decode cX11_isTrue 146 = .ok (.iload 6, 2) := by decide +kernel
theorem dX11_isTrue_148 : decode cX11_isTrue 148 = .ok (.ifCond .ne 32, 3) := by decide +kernel
theorem dX11_isTrue_151 : decode cX11_isTrue 151 = .ok (.aload_n 0, 1) := by decide +kernel
theorem dX11_isTrue_152 : decode cX11_isTrue 152 = .ok (.getfield 57, 3) := by decide +kernel
theorem dX11_isTrue_155 : decode cX11_isTrue 155 = .ok (.iload 4, 2) := by decide +kernel
theorem dX11_isTrue_157 : decode cX11_isTrue 157 = .ok (.iconst 1, 1) := by decide +kernel
theorem dX11_isTrue_158 : decode cX11_isTrue 158 = .ok (.isub, 1) := by decide +kernel
theorem dX11_isTrue_159 : decode cX11_isTrue 159 = .ok (.aload_n 0, 1) := by decide +kernel
theorem dX11_isTrue_160 : decode cX11_isTrue 160 = .ok (.getfield 57, 3) := by decide +kernel
theorem dX11_isTrue_163 : decode cX11_isTrue 163 = .ok (.iload 4, 2) := by decide +kernel
theorem dX11_isTrue_165 : decode cX11_isTrue 165 = .ok (.iconst 1, 1) := by decide +kernel
theorem dX11_isTrue_166 : decode cX11_isTrue 166 = .ok (.isub, 1) := by decide +kernel
theorem dX11_isTrue_167 : decode cX11_isTrue 167 = .ok (.baload, 1) := by decide +kernel
theorem dX11_isTrue_168 : decode cX11_isTrue 168 = .ok (.ifCond .ne 7, 3) := by decide +kernel
theorem dX11_isTrue_171 : decode cX11_isTrue 171 = .ok (.iconst 1, 1) := by decide +kernel
theorem dX11_isTrue_172 : decode cX11_isTrue 172 = .ok (.goto 4, 3) := by decide +kernel
theorem dX11_isTrue_175 : decode cX11_isTrue 175 = .ok (.iconst 0, 1) := by decide +kernel
theorem dX11_isTrue_176 : decode cX11_isTrue 176 = .ok (.bastore, 1) := by decide +kernel
theorem dX11_isTrue_177 : decode cX11_isTrue 177 = .ok (.goto 78, 3) := by decide +kernel
theorem dX11_isTrue_180 : decode cX11_isTrue 180 = .ok (.iinc 4 (-1), 3) := by decide +kernel
theorem dX11_isTrue_183 : decode cX11_isTrue 183 = .ok (.aload_n 0, 1) := by decide +kernel
theorem dX11_isTrue_184 : decode cX11_isTrue 184 = .ok (.getfield 57, 3) := by decide +kernel
theorem dX11_isTrue_187 : decode cX11_isTrue 187 = .ok (.iload 4, 2) := by decide +kernel
theorem dX11_isTrue_189 : decode cX11_isTrue 189 = .ok (.iconst 1, 1) := by decide +kernel
theorem dX11_isTrue_190 : decode cX11_isTrue 190 = .ok (.isub, 1) := by decide +kernel
theorem dX11_isTrue_191 : decode cX11_isTrue 191 = .ok (.iload 6, 2) := by decide +kernel
theorem dX11_isTrue_193 : decode cX11_isTrue 193 = .ok (.iconst 1, 1) := by decide +kernel
theorem dX11_isTrue_194 : decode cX11_isTrue 194 = .ok (.if_icmp .ne 33, 3) := by decide +kernel
theorem dX11_isTrue_197 : decode cX11_isTrue 197 = .ok (.aload_n 0, 1) := by decide +kernel
theorem dX11_isTrue_198 : decode cX11_isTrue 198 = .ok (.getfield 57, 3) := by decide +kernel
theorem dX11_isTrue_201 : decode cX11_isTrue 201 = .ok (.iload 4, 2) := by decide +kernel
theorem dX11_isTrue_203 : decode cX11_isTrue 203 = .ok (.iconst 1, 1) := by decide +kernel
theorem dX11_isTrue_204 : decode cX11_isTrue 204 = .ok (.isub, 1) := by decide +kernel
theorem dX11_isTrue_205 : decode cX11_isTrue 205 = .ok (.baload, 1) := by decide +kernel
theorem dX11_isTrue_206 : decode cX11_isTrue 206 = .ok (.ifCond .eq 17, 3) := by decide +kernel
theorem dX11_isTrue_209 : decode cX11_isTrue 209 = .ok (.aload_n 0, 1) := by decide +kernel
theorem dX11_isTrue_210 : decode cX11_isTrue 210 = .ok (.getfield 57, 3) := by decide +kernel
theorem dX11_isTrue_213 : decode cX11_isTrue 213 = .ok (.iload 4, 2) := by decide +kernel
theorem dX11_isTrue_215 : decode cX11_isTrue 215 = .ok (.baload, 1) := by decide +kernel
theorem dX11_isTrue_216 : decode cX11_isTrue 216 = .ok (.ifCond .eq 7, 3) := by decide +kernel
theorem dX11_isTrue_219 : decode cX11_isTrue 219 = .ok (.iconst 1, 1) := by decide +kernel
theorem dX11_isTrue_220 : decode cX11_isTrue 220 = .ok (.goto 34, 3) := by decide +kernel
theorem dX11_isTrue_223 : decode cX11_isTrue 223 = .ok (.iconst 0, 1) := by decide +kernel
theorem dX11_isTrue_224 : decode cX11_isTrue 224 = .ok (.goto 30, 3) := by decide +kernel
theorem dX11_isTrue_227 : decode cX11_isTrue 227 = .ok (.aload_n 0, 1) := by decide +kernel
theorem dX11_isTrue_228 : decode cX11_isTrue 228 = .ok (.getfield 57, 3) := by decide +kernel
theorem dX11_isTrue_231 : decode cX11_isTrue 231 = .ok (.iload 4, 2) := by decide +kernel
theorem dX11_isTrue_233 : decode cX11_isTrue 233 = .ok (.iconst 1, 1) := by decide +kernel
theorem dX11_isTrue_234 : decode cX11_isTrue 234 = .ok (.isub, 1) := by decide +kernel
theorem dX11_isTrue_235 : decode cX11_isTrue 235 = .ok (.baload, 1) := by decide +kernel
theorem dX11_isTrue_236 : decode cX11_isTrue 236 = .ok (.ifCond .ne 13, 3) := by decide +kernel
theorem dX11_isTrue_239 : decode cX11_isTrue 239 = .ok (.aload_n 0, 1) := by decide +kernel
theorem dX11_isTrue_240 : decode cX11_isTrue 240 = .ok (.getfield 57, 3) := by decide +kernel
theorem dX11_isTrue_243 : decode cX11_isTrue 243 = .ok (.iload 4, 2) := by decide +kernel
theorem dX11_isTrue_245 : decode cX11_isTrue 245 = .ok (.baload, 1) := by decide +kernel
theorem dX11_isTrue_246 : decode cX11_isTrue 246 = .ok (.ifCond .eq 7, 3) := by decide +kernel
theorem dX11_isTrue_249 : decode cX11_isTrue 249 = .ok (.iconst 1, 1) := by decide +kernel
theorem dX11_isTrue_250 : decode cX11_isTrue 250 = .ok (.goto 4, 3) := by decide +kernel
theorem dX11_isTrue_253 : decode cX11_isTrue 253 = .ok (.iconst 0, 1) := by decide +kernel
theorem dX11_isTrue_254 : decode cX11_isTrue 254 = .ok (.bastore, 1) := by decide +kernel
theorem dX11_isTrue_255 : decode cX11_isTrue 255 = .ok (.iinc 5 1, 3) := by decide +kernel
theorem dX11_isTrue_258 : decode cX11_isTrue 258 = .ok (.goto (-247), 3) := by decide +kernel
theorem dX11_isTrue_261 : decode cX11_isTrue 261 = .ok (.aload_n 0, 1) := by decide +kernel
theorem dX11_isTrue_262 : decode cX11_isTrue 262 = .ok (.getfield 57, 3) := by decide +kernel
theorem dX11_isTrue_265 : decode cX11_isTrue 265 = .ok (.iconst 0, 1) := by decide +kernel
theorem dX11_isTrue_266 : decode cX11_isTrue 266 = .ok (.baload, 1) := by decide +kernel
theorem dX11_isTrue_267 : decode cX11_isTrue 267 = .ok (.ireturn, 1) := by decide +kernel
theorem dX11_sum_0 : decode cX11_sum 0 = .ok (.iconst 5, 1) := by decide +kernel
theorem dX11_sum_1 : decode cX11_sum 1 = .ok (.iconst 2, 1) := by decide +kernel
theorem dX11_sum_2 : decode cX11_sum 2 = .ok (.aload_n 0, 1) := by decide +kernel
theorem dX11_sum_3 : decode cX11_sum 3 = .ok (.getfield 9, 3) := by decide +kernel
theorem dX11_sum_6 : decode cX11_sum 6 = .ok (.iload_n 2, 1) := by decide +kernel
theorem dX11_sum_7 : decode cX11_sum 7 = .ok (.iaload, 1) := by decide +kernel
theorem dX11_sum_8 : decode cX11_sum 8 = .ok (.imul, 1) := by decide +kernel
theorem dX11_sum_9 : decode cX11_sum 9 = .ok (.iadd, 1) := by decide +kernel
theorem dX11_sum_10 : decode cX11_sum 10 = .ok (.istore_n 3, 1) := by decide +kernel
theorem dX11_sum_11 : decode cX11_sum 11 = .ok (.iconst 0, 1) := by decide +kernel
theorem dX11_sum_12 : decode cX11_sum 12 = .ok (.istore 4, 2) := by decide +kernel
theorem dX11_sum_14 : decode cX11_sum 14 = .ok (.aload_n 0, 1) := by decide +kernel
theorem dX11_sum_15 : decode cX11_sum 15 = .ok (.getfield 107, 3) := by decide +kernel
theorem dX11_sum_18 : decode cX11_sum 18 = .ok (.iconst (-1), 1) := by decide +kernel
theorem dX11_sum_19 : decode cX11_sum 19 = .ok (.if_icmp .eq 88, 3) := by decide +kernel
theorem dX11_sum_22 : decode cX11_sum 22 = .ok (.iload 4, 2) := by decide +kernel
theorem dX11_sum_24 : decode cX11_sum 24 = .ok (.aload_n 0, 1) := by decide +kernel
theorem dX11_sum_25 : decode cX11_sum 25 = .ok (.getfield 39, 3) := by decide +kernel
theorem dX11_sum_28 : decode cX11_sum 28 = .ok (.aload_n 0, 1) := by decide +kernel
theorem dX11_sum_29 : decode cX11_sum 29 = .ok (.getfield 107, 3) := by decide +kernel
theorem dX11_sum_32 : decode cX11_sum 32 = .ok (.iaload, 1) := by decide +kernel
theorem dX11_sum_33 : decode cX11_sum 33 = .ok (.if_icmp .ge 74, 3) := by decide +kernel
theorem dX11_sum_36 : decode cX11_sum 36 = .ok (.bipush 10, 2) := by decide +kernel
theorem dX11_sum_38 : decode cX11_sum 38 = .ok (.aload_n 0, 1) := by decide +kernel
theorem dX11_sum_39 : decode cX11_sum 39 = .ok (.getfield 107, 3) := by decide +kernel
theorem dX11_sum_42 : decode cX11_sum 42 = .ok (.imul, 1) := by decide +kernel
theorem dX11_sum_43 : decode cX11_sum 43 = .ok (.iload 4, 2) := by decide +kernel
theorem dX11_sum_45 : decode cX11_sum 45 = .ok (.iadd, 1) := by decide +kernel
theorem dX11_sum_46 : decode cX11_sum 46 = .ok (.istore 5, 2) := by decide +kernel
theorem dX11_sum_48 : decode cX11_sum 48 = .ok (.aload_n 0, 1) := by decide +kernel
theorem dX11_sum_49 : decode cX11_sum 49 = .ok (.getfield 42, 3) := by decide +kernel
theorem dX11_sum_52 : decode cX11_sum 52 = .ok (.iload 5, 2) := by decide +kernel
theorem dX11_sum_54 : decode cX11_sum 54 = .ok (.iaload, 1) := by decide +kernel
theorem dX11_sum_55 : decode cX11_sum 55 = .ok (.iconst 2, 1) := by decide +kernel
theorem dX11_sum_56 : decode cX11_sum 56 = .ok (.if_icmp .ge 45, 3) := by decide +kernel
theorem dX11_sum_59 : decode cX11_sum 59 = .ok (.aload_n 0, 1) := by decide +kernel
theorem dX11_sum_60 : decode cX11_sum 60 = .ok (.iload_n 1, 1) := by decide +kernel
theorem dX11_sum_61 : decode cX11_sum 61 = .ok (.iload_n 2, 1) := by decide +kernel
theorem dX11_sum_62 : decode cX11_sum 62 = .ok (.iload 5, 2) := by decide +kernel
theorem dX11_sum_64 : decode cX11_sum 64 = .ok (.invokevirtual 228, 3) := by decide +kernel
theorem dX11_sum_67 : decode cX11_sum 67 = .ok (.ifCond .eq 34, 3) := by decide +kernel
theorem dX11_sum_70 : decode cX11_sum 70 = .ok (.iload_n 3, 1) := by decide +kernel
theorem dX11_sum_71 : decode cX11_sum 71 = .ok (.aload_n 0, 1) := by decide +kernel
theorem dX11_sum_72 : decode cX11_sum 72 = .ok (.getfield 42, 3) := by decide +kernel
theorem dX11_sum_75 : decode cX11_sum 75 = .ok (.iload 5, 2) := by decide +kernel
theorem dX11_sum_77 : decode cX11_sum 77 = .ok (.iaload, 1) := by decide +kernel
theorem dX11_sum_78 : decode cX11_sum 78 = .ok (.ifCond .ne 13, 3) := by decide +kernel
theorem dX11_sum_81 : decode cX11_sum 81 = .ok (.aload_n 0, 1) := by decide +kernel
theorem dX11_sum_82 : decode cX11_sum 82 = .ok (.getfield 45, 3) := by decide +kernel
theorem dX11_sum_85 : decode cX11_sum 85 = .ok (.iload 5, 2) := by decide +kernel
theorem dX11_sum_87 : decode cX11_sum 87 = .ok (.iaload, 1) := by decide +kernel
theorem dX11_sum_88 : decode cX11_sum 88 = .ok (.goto 11, 3) := by decide +kernel
theorem dX11_sum_91 : decode cX11_sum 91 = .ok (.aload_n 0, 1) := by decide +kernel
theorem dX11_sum_92 : decode cX11_sum 92 = .ok (.getfield 45, 3) := by decide +kernel
theorem dX11_sum_95 : decode cX11_sum 95 = .ok (.iload 5, 2) := by decide +kernel
theorem dX11_sum_97 : decode cX11_sum 97 = .ok (.iaload, 1) := by decide +kernel
theorem dX11_sum_98 : decode cX11_sum 98 = .ok (.ineg, 1) := by decide +kernel
theorem dX11_sum_99 : decode cX11_sum 99 = .ok (.iadd, 1) := by decide +kernel
theorem dX11_sum_100 : decode cX11_sum 100 = .ok (.istore_n 3, 1) := by decide +kernel
theorem dX11_sum_101 : decode cX11_sum 101 = .ok (.iinc 4 1, 3) := by decide +kernel
theorem dX11_sum_104 : decode cX11_sum 104 = .ok (.goto (-90), 3) := by decide +kernel
theorem dX11_sum_107 : decode cX11_sum 107 = .ok (.iload_n 3, 1) := by decide +kernel
theorem dX11_sum_108 : decode cX11_sum 108 = .ok (.ireturn, 1) := by decide +kernel
theorem dX11_keepOf_0 : decode cX11_keepOf 0 = .ok (.iconst 3, 1) := by decide +kernel
theorem dX11_keepOf_1 : decode cX11_keepOf 1 = .ok (.istore_n 1, 1) := by decide +kernel
theorem dX11_keepOf_2 : decode cX11_keepOf 2 = .ok (.iconst 0, 1) := by decide +kernel
theorem dX11_keepOf_3 : decode cX11_keepOf 3 = .ok (.istore_n 2, 1) := by decide +kernel
theorem dX11_keepOf_4 : decode cX11_keepOf 4 = .ok (.aload_n 0, 1) := by decide +kernel
theorem dX11_keepOf_5 : decode cX11_keepOf 5 = .ok (.getfield 107, 3) := by decide +kernel
theorem dX11_keepOf_8 : decode cX11_keepOf 8 = .ok (.iconst (-1), 1) := by decide +kernel
theorem dX11_keepOf_9 : decode cX11_keepOf 9 = .ok (.if_icmp .eq 55, 3) := by decide +kernel
theorem dX11_keepOf_12 : decode cX11_keepOf 12 = .ok (.iload_n 2, 1) := by decide +kernel
theorem dX11_keepOf_13 : decode cX11_keepOf 13 = .ok (.aload_n 0, 1) := by decide +kernel
theorem dX11_keepOf_14 : decode cX11_keepOf 14 = .ok (.getfield 39, 3) := by decide +kernel
theorem dX11_keepOf_17 : decode cX11_keepOf 17 = .ok (.aload_n 0, 1) := by decide +kernel
theorem dX11_keepOf_18 : decode cX11_keepOf 18 = .ok (.getfield 107, 3) := by decide +kernel
theorem dX11_keepOf_21 : decode cX11_keepOf 21 = .ok (.iaload, 1) := by decide +kernel
theorem dX11_keepOf_22 : decode cX11_keepOf 22 = .ok (.if_icmp .ge 42, 3) := by decide +kernel
theorem dX11_keepOf_25 : decode cX11_keepOf 25 = .ok (.aload_n 0, 1) := by decide +kernel
theorem dX11_keepOf_26 : decode cX11_keepOf 26 = .ok (.getfield 42, 3) := by decide +kernel
theorem dX11_keepOf_29 : decode cX11_keepOf 29 = .ok (.bipush 10, 2) := by decide +kernel
theorem dX11_keepOf_31 : decode cX11_keepOf 31 = .ok (.aload_n 0, 1) := by decide +kernel
theorem dX11_keepOf_32 : decode cX11_keepOf 32 = .ok (.getfield 107, 3) := by decide +kernel
theorem dX11_keepOf_35 : decode cX11_keepOf 35 = .ok (.imul, 1) := by decide +kernel
theorem dX11_keepOf_36 : decode cX11_keepOf 36 = .ok (.iload_n 2, 1) := by decide +kernel
theorem dX11_keepOf_37 : decode cX11_keepOf 37 = .ok (.iadd, 1) := by decide +kernel
theorem dX11_keepOf_38 : decode cX11_keepOf 38 = .ok (.iaload, 1) := by decide +kernel
theorem dX11_keepOf_39 : decode cX11_keepOf 39 = .ok (.iconst 2, 1) := by decide +kernel
theorem dX11_keepOf_40 : decode cX11_keepOf 40 = .ok (.if_icmp .ne 18, 3) := by decide +kernel
theorem dX11_keepOf_43 : decode cX11_keepOf 43 = .ok (.aload_n 0, 1) := by decide +kernel
theorem dX11_keepOf_44 : decode cX11_keepOf 44 = .ok (.getfield 45, 3) := by decide +kernel
theorem dX11_keepOf_47 : decode cX11_keepOf 47 = .ok (.bipush 10, 2) := by decide +kernel
theorem dX11_keepOf_49 : decode cX11_keepOf 49 = .ok (.aload_n 0, 1) := by decide +kernel
theorem dX11_keepOf_50 : decode cX11_keepOf 50 = .ok (.getfield 107, 3) := by decide +kernel
theorem dX11_keepOf_53 : decode cX11_keepOf 53 = .ok (.imul, 1) := by decide +kernel
theorem dX11_keepOf_54 : decode cX11_keepOf 54 = .ok (.iload_n 2, 1) := by decide +kernel
theorem dX11_keepOf_55 : decode cX11_keepOf 55 = .ok (.iadd, 1) := by decide +kernel
theorem dX11_keepOf_56 : decode cX11_keepOf 56 = .ok (.iaload, 1) := by decide +kernel
theorem dX11_keepOf_57 : decode cX11_keepOf 57 = .ok (.istore_n 1, 1) := by decide +kernel
theorem dX11_keepOf_58 : decode cX11_keepOf 58 = .ok (.iinc 2 1, 3) := by decide +kernel
theorem dX11_keepOf_61 : decode cX11_keepOf 61 = .ok (.goto (-57), 3) := by decide +kernel
theorem dX11_keepOf_64 : decode cX11_keepOf 64 = .ok (.iload_n 1, 1) := by decide +kernel
theorem dX11_keepOf_65 : decode cX11_keepOf 65 = .ok (.ireturn, 1) := by decide +kernel
theorem dX11_tempts_0 : decode cX11_tempts 0 = .ok (.aload_n 0, 1) := by decide +kernel
theorem dX11_tempts_1 : decode cX11_tempts 1 = .ok (.iload_n 1, 1) := by decide +kernel
theorem dX11_tempts_2 : decode cX11_tempts 2 = .ok (.iload_n 2, 1) := by decide +kernel
theorem dX11_tempts_3 : decode cX11_tempts 3 = .ok (.invokevirtual 231, 3) := by decide +kernel
theorem dX11_tempts_6 : decode cX11_tempts 6 = .ok (.istore_n 3, 1) := by decide +kernel
theorem dX11_tempts_7 : decode cX11_tempts 7 = .ok (.iload_n 2, 1) := by decide +kernel
theorem dX11_tempts_8 : decode cX11_tempts 8 = .ok (.iconst 2, 1) := by decide +kernel
theorem dX11_tempts_9 : decode cX11_tempts 9 = .ok (.irem, 1) := by decide +kernel
theorem dX11_tempts_10 : decode cX11_tempts 10 = .ok (.ifCond .ne 14, 3) := by decide +kernel
theorem dX11_tempts_13 : decode cX11_tempts 13 = .ok (.iload_n 3, 1) := by decide +kernel
theorem dX11_tempts_14 : decode cX11_tempts 14 = .ok (.aload_n 0, 1) := by decide +kernel
theorem dX11_tempts_15 : decode cX11_tempts 15 = .ok (.getfield 21, 3) := by decide +kernel
theorem dX11_tempts_18 : decode cX11_tempts 18 = .ok (.iload_n 1, 1) := by decide +kernel
theorem dX11_tempts_19 : decode cX11_tempts 19 = .ok (.iaload, 1) := by decide +kernel
theorem dX11_tempts_20 : decode cX11_tempts 20 = .ok (.iadd, 1) := by decide +kernel
theorem dX11_tempts_21 : decode cX11_tempts 21 = .ok (.goto 4, 3) := by decide +kernel
theorem dX11_tempts_24 : decode cX11_tempts 24 = .ok (.iload_n 3, 1) := by decide +kernel
theorem dX11_tempts_25 : decode cX11_tempts 25 = .ok (.istore 4, 2) := by decide +kernel
theorem dX11_tempts_27 : decode cX11_tempts 27 = .ok (.aload_n 0, 1) := by decide +kernel
theorem dX11_tempts_28 : decode cX11_tempts 28 = .ok (.getfield 21, 3) := by decide +kernel
theorem dX11_tempts_31 : decode cX11_tempts 31 = .ok (.iload_n 1, 1) := by decide +kernel
theorem dX11_tempts_32 : decode cX11_tempts 32 = .ok (.iaload, 1) := by decide +kernel
theorem dX11_tempts_33 : decode cX11_tempts 33 = .ok (.aload_n 0, 1) := by decide +kernel
theorem dX11_tempts_34 : decode cX11_tempts 34 = .ok (.getfield 9, 3) := by decide +kernel
theorem dX11_tempts_37 : decode cX11_tempts 37 = .ok (.iload_n 2, 1) := by decide +kernel
theorem dX11_tempts_38 : decode cX11_tempts 38 = .ok (.iaload, 1) := by decide +kernel
theorem dX11_tempts_39 : decode cX11_tempts 39 = .ok (.if_icmp .le 7, 3) := by decide +kernel
theorem dX11_tempts_42 : decode cX11_tempts 42 = .ok (.iconst 0, 1) := by decide +kernel
theorem dX11_tempts_43 : decode cX11_tempts 43 = .ok (.goto 4, 3) := by decide +kernel
theorem dX11_tempts_46 : decode cX11_tempts 46 = .ok (.iload_n 3, 1) := by decide +kernel
theorem dX11_tempts_47 : decode cX11_tempts 47 = .ok (.istore 5, 2) := by decide +kernel
theorem dX11_tempts_49 : decode cX11_tempts 49 = .ok (.aload_n 0, 1) := by decide +kernel
theorem dX11_tempts_50 : decode cX11_tempts 50 = .ok (.getfield 18, 3) := by decide +kernel
theorem dX11_tempts_53 : decode cX11_tempts 53 = .ok (.iload_n 1, 1) := by decide +kernel
theorem dX11_tempts_54 : decode cX11_tempts 54 = .ok (.iaload, 1) := by decide +kernel
theorem dX11_tempts_55 : decode cX11_tempts 55 = .ok (.tableswitch 98 1 6 #[37, 40, 44, 47, 71, 82], 37) := by decide +kernel
theorem dX11_tempts_92 : decode cX11_tempts 92 = .ok (.iload 4, 2) := by decide +kernel
theorem dX11_tempts_94 : decode cX11_tempts 94 = .ok (.ireturn, 1) := by decide +kernel
theorem dX11_tempts_95 : decode cX11_tempts 95 = .ok (.iload_n 3, 1) := by decide +kernel
theorem dX11_tempts_96 : decode cX11_tempts 96 = .ok (.iconst 2, 1) := by decide +kernel
theorem dX11_tempts_97 : decode cX11_tempts 97 = .ok (.idiv, 1) := by decide +kernel
theorem dX11_tempts_98 : decode cX11_tempts 98 = .ok (.ireturn, 1) := by decide +kernel
theorem dX11_tempts_99 : decode cX11_tempts 99 = .ok (.iload 5, 2) := by decide +kernel
theorem dX11_tempts_101 : decode cX11_tempts 101 = .ok (.ireturn, 1) := by decide +kernel
theorem dX11_tempts_102 : decode cX11_tempts 102 = .ok (.aload_n 0, 1) := by decide +kernel
theorem dX11_tempts_103 : decode cX11_tempts 103 = .ok (.getfield 27, 3) := by decide +kernel
theorem dX11_tempts_106 : decode cX11_tempts 106 = .ok (.iload_n 1, 1) := by decide +kernel
theorem dX11_tempts_107 : decode cX11_tempts 107 = .ok (.iaload, 1) := by decide +kernel
theorem dX11_tempts_108 : decode cX11_tempts 108 = .ok (.iload_n 2, 1) := by decide +kernel
theorem dX11_tempts_109 : decode cX11_tempts 109 = .ok (.invokestatic 139, 3) := by decide +kernel
theorem dX11_tempts_112 : decode cX11_tempts 112 = .ok (.ifCond .eq 11, 3) := by decide +kernel
theorem dX11_tempts_115 : decode cX11_tempts 115 = .ok (.iload 4, 2) := by decide +kernel
theorem dX11_tempts_117 : decode cX11_tempts 117 = .ok (.bipush 10, 2) := by decide +kernel
theorem dX11_tempts_119 : decode cX11_tempts 119 = .ok (.isub, 1) := by decide +kernel
theorem dX11_tempts_120 : decode cX11_tempts 120 = .ok (.goto 5, 3) := by decide +kernel
theorem dX11_tempts_123 : decode cX11_tempts 123 = .ok (.iload 4, 2) := by decide +kernel
theorem dX11_tempts_125 : decode cX11_tempts 125 = .ok (.ireturn, 1) := by decide +kernel
theorem dX11_tempts_126 : decode cX11_tempts 126 = .ok (.iload_n 3, 1) := by decide +kernel
theorem dX11_tempts_127 : decode cX11_tempts 127 = .ok (.iconst 2, 1) := by decide +kernel
theorem dX11_tempts_128 : decode cX11_tempts 128 = .ok (.idiv, 1) := by decide +kernel
theorem dX11_tempts_129 : decode cX11_tempts 129 = .ok (.aload_n 0, 1) := by decide +kernel
theorem dX11_tempts_130 : decode cX11_tempts 130 = .ok (.getfield 221, 3) := by decide +kernel
theorem dX11_tempts_133 : decode cX11_tempts 133 = .ok (.iconst 5, 1) := by decide +kernel
theorem dX11_tempts_134 : decode cX11_tempts 134 = .ok (.irem, 1) := by decide +kernel
theorem dX11_tempts_135 : decode cX11_tempts 135 = .ok (.iadd, 1) := by decide +kernel
theorem dX11_tempts_136 : decode cX11_tempts 136 = .ok (.ireturn, 1) := by decide +kernel
theorem dX11_tempts_137 : decode cX11_tempts 137 = .ok (.iload 5, 2) := by decide +kernel
theorem dX11_tempts_139 : decode cX11_tempts 139 = .ok (.aload_n 0, 1) := by decide +kernel
theorem dX11_tempts_140 : decode cX11_tempts 140 = .ok (.getfield 33, 3) := by decide +kernel
theorem dX11_tempts_143 : decode cX11_tempts 143 = .ok (.iconst 4, 1) := by decide +kernel
theorem dX11_tempts_144 : decode cX11_tempts 144 = .ok (.iload_n 1, 1) := by decide +kernel
theorem dX11_tempts_145 : decode cX11_tempts 145 = .ok (.imul, 1) := by decide +kernel
theorem dX11_tempts_146 : decode cX11_tempts 146 = .ok (.iload_n 2, 1) := by decide +kernel
theorem dX11_tempts_147 : decode cX11_tempts 147 = .ok (.iconst 4, 1) := by decide +kernel
theorem dX11_tempts_148 : decode cX11_tempts 148 = .ok (.irem, 1) := by decide +kernel
theorem dX11_tempts_149 : decode cX11_tempts 149 = .ok (.iadd, 1) := by decide +kernel
theorem dX11_tempts_150 : decode cX11_tempts 150 = .ok (.iaload, 1) := by decide +kernel
theorem dX11_tempts_151 : decode cX11_tempts 151 = .ok (.iadd, 1) := by decide +kernel
theorem dX11_tempts_152 : decode cX11_tempts 152 = .ok (.ireturn, 1) := by decide +kernel
theorem dX11_tempts_153 : decode cX11_tempts 153 = .ok (.iload_n 3, 1) := by decide +kernel
theorem dX11_tempts_154 : decode cX11_tempts 154 = .ok (.ireturn, 1) := by decide +kernel
theorem dX11_prey_0 : decode cX11_prey 0 = .ok (.bipush (-5), 2) := by decide +kernel
theorem dX11_prey_2 : decode cX11_prey 2 = .ok (.istore_n 2, 1) := by decide +kernel
theorem dX11_prey_3 : decode cX11_prey 3 = .ok (.iconst 0, 1) := by decide +kernel
theorem dX11_prey_4 : decode cX11_prey 4 = .ok (.istore_n 3, 1) := by decide +kernel
theorem dX11_prey_5 : decode cX11_prey 5 = .ok (.iconst 0, 1) := by decide +kernel
theorem dX11_prey_6 : decode cX11_prey 6 = .ok (.istore 4, 2) := by decide +kernel
theorem dX11_prey_8 : decode cX11_prey 8 = .ok (.iload 4, 2) := by decide +kernel
theorem dX11_prey_10 : decode cX11_prey 10 = .ok (.bipush 12, 2) := by decide +kernel
theorem dX11_prey_12 : decode cX11_prey 12 = .ok (.if_icmp .ge 60, 3) := by decide +kernel
theorem dX11_prey_15 : decode cX11_prey 15 = .ok (.aload_n 0, 1) := by decide +kernel
theorem dX11_prey_16 : decode cX11_prey 16 = .ok (.getfield 30, 3) := by decide +kernel
theorem dX11_prey_19 : decode cX11_prey 19 = .ok (.iload_n 1, 1) := by decide +kernel
theorem dX11_prey_20 : decode cX11_prey 20 = .ok (.iaload, 1) := by decide +kernel
theorem dX11_prey_21 : decode cX11_prey 21 = .ok (.iconst 1, 1) := by decide +kernel
theorem dX11_prey_22 : decode cX11_prey 22 = .ok (.if_icmp .ne 50, 3) := by decide +kernel
theorem dX11_prey_25 : decode cX11_prey 25 = .ok (.aload_n 0, 1) := by decide +kernel
theorem dX11_prey_26 : decode cX11_prey 26 = .ok (.getfield 24, 3) := by decide +kernel
theorem dX11_prey_29 : decode cX11_prey 29 = .ok (.iload_n 1, 1) := by decide +kernel
theorem dX11_prey_30 : decode cX11_prey 30 = .ok (.iaload, 1) := by decide +kernel
theorem dX11_prey_31 : decode cX11_prey 31 = .ok (.iload 4, 2) := by decide +kernel
theorem dX11_prey_33 : decode cX11_prey 33 = .ok (.invokestatic 139, 3) := by decide +kernel
theorem dX11_prey_36 : decode cX11_prey 36 = .ok (.ifCond .ne 6, 3) := by decide +kernel
theorem dX11_prey_39 : decode cX11_prey 39 = .ok (.goto 27, 3) := by decide +kernel
theorem dX11_prey_42 : decode cX11_prey 42 = .ok (.aload_n 0, 1) := by decide +kernel
theorem dX11_prey_43 : decode cX11_prey 43 = .ok (.iload_n 1, 1) := by decide +kernel
theorem dX11_prey_44 : decode cX11_prey 44 = .ok (.iload 4, 2) := by decide +kernel
theorem dX11_prey_46 : decode cX11_prey 46 = .ok (.invokevirtual 125, 3) := by decide +kernel
theorem dX11_prey_49 : decode cX11_prey 49 = .ok (.istore 5, 2) := by decide +kernel
theorem dX11_prey_51 : decode cX11_prey 51 = .ok (.iload 5, 2) := by decide +kernel
theorem dX11_prey_53 : decode cX11_prey 53 = .ok (.iload_n 3, 1) := by decide +kernel
theorem dX11_prey_54 : decode cX11_prey 54 = .ok (.if_icmp .gt 6, 3) := by decide +kernel
theorem dX11_prey_57 : decode cX11_prey 57 = .ok (.goto 9, 3) := by decide +kernel
theorem dX11_prey_60 : decode cX11_prey 60 = .ok (.iload 5, 2) := by decide +kernel
theorem dX11_prey_62 : decode cX11_prey 62 = .ok (.istore_n 3, 1) := by decide +kernel
theorem dX11_prey_63 : decode cX11_prey 63 = .ok (.iload 4, 2) := by decide +kernel
theorem dX11_prey_65 : decode cX11_prey 65 = .ok (.istore_n 2, 1) := by decide +kernel
theorem dX11_prey_66 : decode cX11_prey 66 = .ok (.iinc 4 1, 3) := by decide +kernel
theorem dX11_prey_69 : decode cX11_prey 69 = .ok (.goto (-61), 3) := by decide +kernel
theorem dX11_prey_72 : decode cX11_prey 72 = .ok (.iload_n 2, 1) := by decide +kernel
theorem dX11_prey_73 : decode cX11_prey 73 = .ok (.ireturn, 1) := by decide +kernel
theorem dX11_goesNight_0 : decode cX11_goesNight 0 = .ok (.iconst 0, 1) := by decide +kernel
theorem dX11_goesNight_1 : decode cX11_goesNight 1 = .ok (.istore_n 1, 1) := by decide +kernel
theorem dX11_goesNight_2 : decode cX11_goesNight 2 = .ok (.iload_n 1, 1) := by decide +kernel
theorem dX11_goesNight_3 : decode cX11_goesNight 3 = .ok (.aload_n 0, 1) := by decide +kernel
theorem dX11_goesNight_4 : decode cX11_goesNight 4 = .ok (.getfield 111, 3) := by decide +kernel
theorem dX11_goesNight_7 : decode cX11_goesNight 7 = .ok (.if_icmp .ge 20, 3) := by decide +kernel
theorem dX11_goesNight_10 : decode cX11_goesNight 10 = .ok (.aload_n 0, 1) := by decide +kernel
theorem dX11_goesNight_11 : decode cX11_goesNight 11 = .ok (.getfield 94, 3) := by decide +kernel
theorem dX11_goesNight_14 : decode cX11_goesNight 14 = .ok (.iload_n 1, 1) := by decide +kernel
theorem dX11_goesNight_15 : decode cX11_goesNight 15 = .ok (.aload_n 0, 1) := by decide +kernel
theorem dX11_goesNight_16 : decode cX11_goesNight 16 = .ok (.iload_n 1, 1) := by decide +kernel
theorem dX11_goesNight_17 : decode cX11_goesNight 17 = .ok (.invokevirtual 129, 3) := by decide +kernel
theorem dX11_goesNight_20 : decode cX11_goesNight 20 = .ok (.iastore, 1) := by decide +kernel
theorem dX11_goesNight_21 : decode cX11_goesNight 21 = .ok (.iinc 1 1, 3) := by decide +kernel
theorem dX11_goesNight_24 : decode cX11_goesNight 24 = .ok (.goto (-22), 3) := by decide +kernel
theorem dX11_goesNight_27 : decode cX11_goesNight 27 = .ok (.iconst 0, 1) := by decide +kernel
theorem dX11_goesNight_28 : decode cX11_goesNight 28 = .ok (.istore_n 1, 1) := by decide +kernel
theorem dX11_goesNight_29 : decode cX11_goesNight 29 = .ok (.iload_n 1, 1) := by decide +kernel
theorem dX11_goesNight_30 : decode cX11_goesNight 30 = .ok (.aload_n 0, 1) := by decide +kernel
theorem dX11_goesNight_31 : decode cX11_goesNight 31 = .ok (.getfield 111, 3) := by decide +kernel
theorem dX11_goesNight_34 : decode cX11_goesNight 34 = .ok (.if_icmp .ge 70, 3) := by decide +kernel
theorem dX11_goesNight_37 : decode cX11_goesNight 37 = .ok (.aload_n 0, 1) := by decide +kernel
theorem dX11_goesNight_38 : decode cX11_goesNight 38 = .ok (.getfield 94, 3) := by decide +kernel
theorem dX11_goesNight_41 : decode cX11_goesNight 41 = .ok (.iload_n 1, 1) := by decide +kernel
theorem dX11_goesNight_42 : decode cX11_goesNight 42 = .ok (.iaload, 1) := by decide +kernel
theorem dX11_goesNight_43 : decode cX11_goesNight 43 = .ok (.istore_n 2, 1) := by decide +kernel
theorem dX11_goesNight_44 : decode cX11_goesNight 44 = .ok (.iload_n 2, 1) := by decide +kernel
theorem dX11_goesNight_45 : decode cX11_goesNight 45 = .ok (.bipush (-5), 2) := by decide +kernel
theorem dX11_goesNight_47 : decode cX11_goesNight 47 = .ok (.if_icmp .ne 6, 3) := by decide +kernel
theorem dX11_goesNight_50 : decode cX11_goesNight 50 = .ok (.goto 48, 3) := by decide +kernel
theorem dX11_goesNight_53 : decode cX11_goesNight 53 = .ok (.aload_n 0, 1) := by decide +kernel
theorem dX11_goesNight_54 : decode cX11_goesNight 54 = .ok (.getfield 24, 3) := by decide +kernel
theorem dX11_goesNight_57 : decode cX11_goesNight 57 = .ok (.iload_n 1, 1) := by decide +kernel
theorem dX11_goesNight_58 : decode cX11_goesNight 58 = .ok (.dup2, 1) := by decide +kernel
theorem dX11_goesNight_59 : decode cX11_goesNight 59 = .ok (.iaload, 1) := by decide +kernel
theorem dX11_goesNight_60 : decode cX11_goesNight 60 = .ok (.iconst 1, 1) := by decide +kernel
theorem dX11_goesNight_61 : decode cX11_goesNight 61 = .ok (.iload_n 2, 1) := by decide +kernel
theorem dX11_goesNight_62 : decode cX11_goesNight 62 = .ok (.ishl, 1) := by decide +kernel
theorem dX11_goesNight_63 : decode cX11_goesNight 63 = .ok (.iconst (-1), 1) := by decide +kernel
theorem dX11_goesNight_64 : decode cX11_goesNight 64 = .ok (.ixor, 1) := by decide +kernel
theorem dX11_goesNight_65 : decode cX11_goesNight 65 = .ok (.iand, 1) := by decide +kernel
theorem dX11_goesNight_66 : decode cX11_goesNight 66 = .ok (.iastore, 1) := by decide +kernel
theorem dX11_goesNight_67 : decode cX11_goesNight 67 = .ok (.aload_n 0, 1) := by decide +kernel
theorem dX11_goesNight_68 : decode cX11_goesNight 68 = .ok (.getfield 27, 3) := by decide +kernel
theorem dX11_goesNight_71 : decode cX11_goesNight 71 = .ok (.iload_n 1, 1) := by decide +kernel
theorem dX11_goesNight_72 : decode cX11_goesNight 72 = .ok (.dup2, 1) := by decide +kernel
theorem dX11_goesNight_73 : decode cX11_goesNight 73 = .ok (.iaload, 1) := by decide +kernel
theorem dX11_goesNight_74 : decode cX11_goesNight 74 = .ok (.iconst 1, 1) := by decide +kernel
theorem dX11_goesNight_75 : decode cX11_goesNight 75 = .ok (.iload_n 2, 1) := by decide +kernel
theorem dX11_goesNight_76 : decode cX11_goesNight 76 = .ok (.ishl, 1) := by decide +kernel
theorem dX11_goesNight_77 : decode cX11_goesNight 77 = .ok (.ior, 1) := by decide +kernel
theorem dX11_goesNight_78 : decode cX11_goesNight 78 = .ok (.iastore, 1) := by decide +kernel
theorem dX11_goesNight_79 : decode cX11_goesNight 79 = .ok (.aload_n 0, 1) := by decide +kernel
theorem dX11_goesNight_80 : decode cX11_goesNight 80 = .ok (.getfield 15, 3) := by decide +kernel
theorem dX11_goesNight_83 : decode cX11_goesNight 83 = .ok (.iload_n 2, 1) := by decide +kernel
theorem dX11_goesNight_84 : decode cX11_goesNight 84 = .ok (.bipush 99, 2) := by decide +kernel
theorem dX11_goesNight_86 : decode cX11_goesNight 86 = .ok (.aload_n 0, 1) := by decide +kernel
theorem dX11_goesNight_87 : decode cX11_goesNight 87 = .ok (.getfield 15, 3) := by decide +kernel
theorem dX11_goesNight_90 : decode cX11_goesNight 90 = .ok (.iload_n 2, 1) := by decide +kernel
theorem dX11_goesNight_91 : decode cX11_goesNight 91 = .ok (.iaload, 1) := by decide +kernel
theorem dX11_goesNight_92 : decode cX11_goesNight 92 = .ok (.iconst 1, 1) := by decide +kernel
theorem dX11_goesNight_93 : decode cX11_goesNight 93 = .ok (.iadd, 1) := by decide +kernel
theorem dX11_goesNight_94 : decode cX11_goesNight 94 = .ok (.invokestatic 234, 3) := by decide +kernel
theorem dX11_goesNight_97 : decode cX11_goesNight 97 = .ok (.iastore, 1) := by decide +kernel
theorem dX11_goesNight_98 : decode cX11_goesNight 98 = .ok (.iinc 1 1, 3) := by decide +kernel
theorem dX11_goesNight_101 : decode cX11_goesNight 101 = .ok (.goto (-72), 3) := by decide +kernel
theorem dX11_goesNight_104 : decode cX11_goesNight 104 = .ok (.aload_n 0, 1) := by decide +kernel
theorem dX11_goesNight_105 : decode cX11_goesNight 105 = .ok (.dup, 1) := by decide +kernel
theorem dX11_goesNight_106 : decode cX11_goesNight 106 = .ok (.getfield 221, 3) := by decide +kernel
theorem dX11_goesNight_109 : decode cX11_goesNight 109 = .ok (.iconst 1, 1) := by decide +kernel
theorem dX11_goesNight_110 : decode cX11_goesNight 110 = .ok (.iadd, 1) := by decide +kernel
theorem dX11_goesNight_111 : decode cX11_goesNight 111 = .ok (.putfield 221, 3) := by decide +kernel
theorem dX11_goesNight_114 : decode cX11_goesNight 114 = .ok (.aload_n 0, 1) := by decide +kernel
theorem dX11_goesNight_115 : decode cX11_goesNight 115 = .ok (.invokevirtual 239, 3) := by decide +kernel
theorem dX11_goesNight_118 : decode cX11_goesNight 118 = .ok (.istore_n 1, 1) := by decide +kernel
theorem dX11_goesNight_119 : decode cX11_goesNight 119 = .ok (.iload_n 1, 1) := by decide +kernel
theorem dX11_goesNight_120 : decode cX11_goesNight 120 = .ok (.ifCond .eq 12, 3) := by decide +kernel
theorem dX11_goesNight_123 : decode cX11_goesNight 123 = .ok (.aload_n 0, 1) := by decide +kernel
theorem dX11_goesNight_124 : decode cX11_goesNight 124 = .ok (.getfield 221, 3) := by decide +kernel
theorem dX11_goesNight_127 : decode cX11_goesNight 127 = .ok (.iload_n 1, 1) := by decide +kernel
theorem dX11_goesNight_128 : decode cX11_goesNight 128 = .ok (.irem, 1) := by decide +kernel
theorem dX11_goesNight_129 : decode cX11_goesNight 129 = .ok (.ifCond .eq 4, 3) := by decide +kernel
theorem dX11_goesNight_132 : decode cX11_goesNight 132 = .ok (.return_, 1) := by decide +kernel
theorem dX11_goesNight_133 : decode cX11_goesNight 133 = .ok (.iconst 0, 1) := by decide +kernel
theorem dX11_goesNight_134 : decode cX11_goesNight 134 = .ok (.istore_n 2, 1) := by decide +kernel
theorem dX11_goesNight_135 : decode cX11_goesNight 135 = .ok (.iload_n 2, 1) := by decide +kernel
theorem dX11_goesNight_136 : decode cX11_goesNight 136 = .ok (.bipush 12, 2) := by decide +kernel
theorem dX11_goesNight_138 : decode cX11_goesNight 138 = .ok (.if_icmp .ge 27, 3) := by decide +kernel
theorem dX11_goesNight_141 : decode cX11_goesNight 141 = .ok (.aload_n 0, 1) := by decide +kernel
theorem dX11_goesNight_142 : decode cX11_goesNight 142 = .ok (.getfield 15, 3) := by decide +kernel
theorem dX11_goesNight_145 : decode cX11_goesNight 145 = .ok (.iload_n 2, 1) := by decide +kernel
theorem dX11_goesNight_146 : decode cX11_goesNight 146 = .ok (.iconst 0, 1) := by decide +kernel
theorem dX11_goesNight_147 : decode cX11_goesNight 147 = .ok (.aload_n 0, 1) := by decide +kernel
theorem dX11_goesNight_148 : decode cX11_goesNight 148 = .ok (.getfield 15, 3) := by decide +kernel
theorem dX11_goesNight_151 : decode cX11_goesNight 151 = .ok (.iload_n 2, 1) := by decide +kernel
theorem dX11_goesNight_152 : decode cX11_goesNight 152 = .ok (.iaload, 1) := by decide +kernel
theorem dX11_goesNight_153 : decode cX11_goesNight 153 = .ok (.iconst 1, 1) := by decide +kernel
theorem dX11_goesNight_154 : decode cX11_goesNight 154 = .ok (.isub, 1) := by decide +kernel
theorem dX11_goesNight_155 : decode cX11_goesNight 155 = .ok (.invokestatic 242, 3) := by decide +kernel
theorem dX11_goesNight_158 : decode cX11_goesNight 158 = .ok (.iastore, 1) := by decide +kernel
theorem dX11_goesNight_159 : decode cX11_goesNight 159 = .ok (.iinc 2 1, 3) := by decide +kernel
theorem dX11_goesNight_162 : decode cX11_goesNight 162 = .ok (.goto (-27), 3) := by decide +kernel
theorem dX11_goesNight_165 : decode cX11_goesNight 165 = .ok (.return_, 1) := by decide +kernel
theorem dX11_allMean_0 : decode cX11_allMean 0 = .ok (.iconst 0, 1) := by decide +kernel
theorem dX11_allMean_1 : decode cX11_allMean 1 = .ok (.istore_n 1, 1) := by decide +kernel
theorem dX11_allMean_2 : decode cX11_allMean 2 = .ok (.iconst 0, 1) := by decide +kernel
theorem dX11_allMean_3 : decode cX11_allMean 3 = .ok (.istore_n 2, 1) := by decide +kernel
theorem dX11_allMean_4 : decode cX11_allMean 4 = .ok (.iload_n 2, 1) := by decide +kernel
theorem dX11_allMean_5 : decode cX11_allMean 5 = .ok (.aload_n 0, 1) := by decide +kernel
theorem dX11_allMean_6 : decode cX11_allMean 6 = .ok (.getfield 111, 3) := by decide +kernel
theorem dX11_allMean_9 : decode cX11_allMean 9 = .ok (.if_icmp .ge 21, 3) := by decide +kernel
theorem dX11_allMean_12 : decode cX11_allMean 12 = .ok (.iload_n 1, 1) := by decide +kernel
theorem dX11_allMean_13 : decode cX11_allMean 13 = .ok (.aload_n 0, 1) := by decide +kernel
theorem dX11_allMean_14 : decode cX11_allMean 14 = .ok (.getfield 24, 3) := by decide +kernel
theorem dX11_allMean_17 : decode cX11_allMean 17 = .ok (.iload_n 2, 1) := by decide +kernel
theorem dX11_allMean_18 : decode cX11_allMean 18 = .ok (.iaload, 1) := by decide +kernel
theorem dX11_allMean_19 : decode cX11_allMean 19 = .ok (.invokestatic 245, 3) := by decide +kernel
theorem dX11_allMean_22 : decode cX11_allMean 22 = .ok (.iadd, 1) := by decide +kernel
theorem dX11_allMean_23 : decode cX11_allMean 23 = .ok (.istore_n 1, 1) := by decide +kernel
theorem dX11_allMean_24 : decode cX11_allMean 24 = .ok (.iinc 2 1, 3) := by decide +kernel
theorem dX11_allMean_27 : decode cX11_allMean 27 = .ok (.goto (-23), 3) := by decide +kernel
theorem dX11_allMean_30 : decode cX11_allMean 30 = .ok (.iload_n 1, 1) := by decide +kernel
theorem dX11_allMean_31 : decode cX11_allMean 31 = .ok (.ireturn, 1) := by decide +kernel
theorem dX11_allCellar_0 : decode cX11_allCellar 0 = .ok (.iconst 0, 1) := by decide +kernel
theorem dX11_allCellar_1 : decode cX11_allCellar 1 = .ok (.istore_n 1, 1) := by decide +kernel
theorem dX11_allCellar_2 : decode cX11_allCellar 2 = .ok (.iconst 0, 1) := by decide +kernel
theorem dX11_allCellar_3 : decode cX11_allCellar 3 = .ok (.istore_n 2, 1) := by decide +kernel
theorem dX11_allCellar_4 : decode cX11_allCellar 4 = .ok (.iload_n 2, 1) := by decide +kernel
theorem dX11_allCellar_5 : decode cX11_allCellar 5 = .ok (.bipush 12, 2) := by decide +kernel
theorem dX11_allCellar_7 : decode cX11_allCellar 7 = .ok (.if_icmp .ge 18, 3) := by decide +kernel
theorem dX11_allCellar_10 : decode cX11_allCellar 10 = .ok (.iload_n 1, 1) := by decide +kernel
theorem dX11_allCellar_11 : decode cX11_allCellar 11 = .ok (.aload_n 0, 1) := by decide +kernel
theorem dX11_allCellar_12 : decode cX11_allCellar 12 = .ok (.getfield 15, 3) := by decide +kernel
theorem dX11_allCellar_15 : decode cX11_allCellar 15 = .ok (.iload_n 2, 1) := by decide +kernel
theorem dX11_allCellar_16 : decode cX11_allCellar 16 = .ok (.iaload, 1) := by decide +kernel
theorem dX11_allCellar_17 : decode cX11_allCellar 17 = .ok (.iadd, 1) := by decide +kernel
theorem dX11_allCellar_18 : decode cX11_allCellar 18 = .ok (.istore_n 1, 1) := by decide +kernel
theorem dX11_allCellar_19 : decode cX11_allCellar 19 = .ok (.iinc 2 1, 3) := by decide +kernel
theorem dX11_allCellar_22 : decode cX11_allCellar 22 = .ok (.goto (-18), 3) := by decide +kernel
theorem dX11_allCellar_25 : decode cX11_allCellar 25 = .ok (.iload_n 1, 1) := by decide +kernel
theorem dX11_allCellar_26 : decode cX11_allCellar 26 = .ok (.ireturn, 1) := by decide +kernel
theorem dX11_allIn_0 : decode cX11_allIn 0 = .ok (.iconst 0, 1) := by decide +kernel
theorem dX11_allIn_1 : decode cX11_allIn 1 = .ok (.istore_n 1, 1) := by decide +kernel
theorem dX11_allIn_2 : decode cX11_allIn 2 = .ok (.iconst 0, 1) := by decide +kernel
theorem dX11_allIn_3 : decode cX11_allIn 3 = .ok (.istore_n 2, 1) := by decide +kernel
theorem dX11_allIn_4 : decode cX11_allIn 4 = .ok (.iload_n 2, 1) := by decide +kernel
theorem dX11_allIn_5 : decode cX11_allIn 5 = .ok (.aload_n 0, 1) := by decide +kernel
theorem dX11_allIn_6 : decode cX11_allIn 6 = .ok (.getfield 111, 3) := by decide +kernel
theorem dX11_allIn_9 : decode cX11_allIn 9 = .ok (.if_icmp .ge 20, 3) := by decide +kernel
theorem dX11_allIn_12 : decode cX11_allIn 12 = .ok (.iload_n 1, 1) := by decide +kernel
theorem dX11_allIn_13 : decode cX11_allIn 13 = .ok (.aload_n 0, 1) := by decide +kernel
theorem dX11_allIn_14 : decode cX11_allIn 14 = .ok (.getfield 30, 3) := by decide +kernel
theorem dX11_allIn_17 : decode cX11_allIn 17 = .ok (.iload_n 2, 1) := by decide +kernel
theorem dX11_allIn_18 : decode cX11_allIn 18 = .ok (.iaload, 1) := by decide +kernel
theorem dX11_allIn_19 : decode cX11_allIn 19 = .ok (.iload_n 2, 1) := by decide +kernel
theorem dX11_allIn_20 : decode cX11_allIn 20 = .ok (.ishl, 1) := by decide +kernel
theorem dX11_allIn_21 : decode cX11_allIn 21 = .ok (.ior, 1) := by decide +kernel
theorem dX11_allIn_22 : decode cX11_allIn 22 = .ok (.istore_n 1, 1) := by decide +kernel
theorem dX11_allIn_23 : decode cX11_allIn 23 = .ok (.iinc 2 1, 3) := by decide +kernel
theorem dX11_allIn_26 : decode cX11_allIn 26 = .ok (.goto (-22), 3) := by decide +kernel
theorem dX11_allIn_29 : decode cX11_allIn 29 = .ok (.iload_n 1, 1) := by decide +kernel
theorem dX11_allIn_30 : decode cX11_allIn 30 = .ok (.ireturn, 1) := by decide +kernel
theorem dX11_mayGive_0 : decode cX11_mayGive 0 = .ok (.aload_n 0, 1) := by decide +kernel
theorem dX11_mayGive_1 : decode cX11_mayGive 1 = .ok (.getfield 24, 3) := by decide +kernel
theorem dX11_mayGive_4 : decode cX11_mayGive 4 = .ok (.iload_n 1, 1) := by decide +kernel
theorem dX11_mayGive_5 : decode cX11_mayGive 5 = .ok (.iaload, 1) := by decide +kernel
theorem dX11_mayGive_6 : decode cX11_mayGive 6 = .ok (.aload_n 0, 1) := by decide +kernel
theorem dX11_mayGive_7 : decode cX11_mayGive 7 = .ok (.getfield 27, 3) := by decide +kernel
theorem dX11_mayGive_10 : decode cX11_mayGive 10 = .ok (.iload_n 2, 1) := by decide +kernel
theorem dX11_mayGive_11 : decode cX11_mayGive 11 = .ok (.iaload, 1) := by decide +kernel
theorem dX11_mayGive_12 : decode cX11_mayGive 12 = .ok (.iand, 1) := by decide +kernel
theorem dX11_mayGive_13 : decode cX11_mayGive 13 = .ok (.aload_n 0, 1) := by decide +kernel
theorem dX11_mayGive_14 : decode cX11_mayGive 14 = .ok (.getfield 24, 3) := by decide +kernel
theorem dX11_mayGive_17 : decode cX11_mayGive 17 = .ok (.iload_n 2, 1) := by decide +kernel
theorem dX11_mayGive_18 : decode cX11_mayGive 18 = .ok (.iaload, 1) := by decide +kernel
theorem dX11_mayGive_19 : decode cX11_mayGive 19 = .ok (.iconst (-1), 1) := by decide +kernel
theorem dX11_mayGive_20 : decode cX11_mayGive 20 = .ok (.ixor, 1) := by decide +kernel
theorem dX11_mayGive_21 : decode cX11_mayGive 21 = .ok (.iand, 1) := by decide +kernel
theorem dX11_mayGive_22 : decode cX11_mayGive 22 = .ok (.ireturn, 1) := by decide +kernel
theorem dX11_ringFrom_0 : decode cX11_ringFrom 0 = .ok (.iload 4, 2) := by decide +kernel
theorem dX11_ringFrom_2 : decode cX11_ringFrom 2 = .ok (.iconst 1, 1) := by decide +kernel
theorem dX11_ringFrom_3 : decode cX11_ringFrom 3 = .ok (.if_icmp .le 17, 3) := by decide +kernel
theorem dX11_ringFrom_6 : decode cX11_ringFrom 6 = .ok (.aload_n 0, 1) := by decide +kernel
theorem dX11_ringFrom_7 : decode cX11_ringFrom 7 = .ok (.iload_n 2, 1) := by decide +kernel
theorem dX11_ringFrom_8 : decode cX11_ringFrom 8 = .ok (.iload_n 1, 1) := by decide +kernel
theorem dX11_ringFrom_9 : decode cX11_ringFrom 9 = .ok (.invokevirtual 250, 3) := by decide +kernel
theorem dX11_ringFrom_12 : decode cX11_ringFrom 12 = .ok (.ifCond .eq 8, 3) := by decide +kernel
theorem dX11_ringFrom_15 : decode cX11_ringFrom 15 = .ok (.iload 4, 2) := by decide +kernel
theorem dX11_ringFrom_17 : decode cX11_ringFrom 17 = .ok (.goto 4, 3) := by decide +kernel
theorem dX11_ringFrom_20 : decode cX11_ringFrom 20 = .ok (.iconst 0, 1) := by decide +kernel
theorem dX11_ringFrom_21 : decode cX11_ringFrom 21 = .ok (.istore 5, 2) := by decide +kernel
theorem dX11_ringFrom_23 : decode cX11_ringFrom 23 = .ok (.iload_n 1, 1) := by decide +kernel
theorem dX11_ringFrom_24 : decode cX11_ringFrom 24 = .ok (.iconst 1, 1) := by decide +kernel
theorem dX11_ringFrom_25 : decode cX11_ringFrom 25 = .ok (.iadd, 1) := by decide +kernel
theorem dX11_ringFrom_26 : decode cX11_ringFrom 26 = .ok (.istore 6, 2) := by decide +kernel
theorem dX11_ringFrom_28 : decode cX11_ringFrom 28 = .ok (.iload 6, 2) := by decide +kernel
theorem dX11_ringFrom_30 : decode cX11_ringFrom 30 = .ok (.aload_n 0, 1) := by decide +kernel
theorem dX11_ringFrom_31 : decode cX11_ringFrom 31 = .ok (.getfield 111, 3) := by decide +kernel
theorem dX11_ringFrom_34 : decode cX11_ringFrom 34 = .ok (.if_icmp .ge 52, 3) := by decide +kernel
theorem dX11_ringFrom_37 : decode cX11_ringFrom 37 = .ok (.iload_n 3, 1) := by decide +kernel
theorem dX11_ringFrom_38 : decode cX11_ringFrom 38 = .ok (.iload 6, 2) := by decide +kernel
theorem dX11_ringFrom_40 : decode cX11_ringFrom 40 = .ok (.invokestatic 139, 3) := by decide +kernel
theorem dX11_ringFrom_43 : decode cX11_ringFrom 43 = .ok (.ifCond .ne 37, 3) := by decide +kernel
theorem dX11_ringFrom_46 : decode cX11_ringFrom 46 = .ok (.aload_n 0, 1) := by decide +kernel
theorem dX11_ringFrom_47 : decode cX11_ringFrom 47 = .ok (.iload_n 2, 1) := by decide +kernel
theorem dX11_ringFrom_48 : decode cX11_ringFrom 48 = .ok (.iload 6, 2) := by decide +kernel
theorem dX11_ringFrom_50 : decode cX11_ringFrom 50 = .ok (.invokevirtual 250, 3) := by decide +kernel
theorem dX11_ringFrom_53 : decode cX11_ringFrom 53 = .ok (.ifCond .eq 27, 3) := by decide +kernel
theorem dX11_ringFrom_56 : decode cX11_ringFrom 56 = .ok (.iload 5, 2) := by decide +kernel
theorem dX11_ringFrom_58 : decode cX11_ringFrom 58 = .ok (.aload_n 0, 1) := by decide +kernel
theorem dX11_ringFrom_59 : decode cX11_ringFrom 59 = .ok (.iload_n 1, 1) := by decide +kernel
theorem dX11_ringFrom_60 : decode cX11_ringFrom 60 = .ok (.iload 6, 2) := by decide +kernel
theorem dX11_ringFrom_62 : decode cX11_ringFrom 62 = .ok (.iload_n 3, 1) := by decide +kernel
theorem dX11_ringFrom_63 : decode cX11_ringFrom 63 = .ok (.iconst 1, 1) := by decide +kernel
theorem dX11_ringFrom_64 : decode cX11_ringFrom 64 = .ok (.iload 6, 2) := by decide +kernel
theorem dX11_ringFrom_66 : decode cX11_ringFrom 66 = .ok (.ishl, 1) := by decide +kernel
theorem dX11_ringFrom_67 : decode cX11_ringFrom 67 = .ok (.ior, 1) := by decide +kernel
theorem dX11_ringFrom_68 : decode cX11_ringFrom 68 = .ok (.iload 4, 2) := by decide +kernel
theorem dX11_ringFrom_70 : decode cX11_ringFrom 70 = .ok (.iconst 1, 1) := by decide +kernel
theorem dX11_ringFrom_71 : decode cX11_ringFrom 71 = .ok (.iadd, 1) := by decide +kernel
theorem dX11_ringFrom_72 : decode cX11_ringFrom 72 = .ok (.invokevirtual 253, 3) := by decide +kernel
theorem dX11_ringFrom_75 : decode cX11_ringFrom 75 = .ok (.invokestatic 242, 3) := by decide +kernel
theorem dX11_ringFrom_78 : decode cX11_ringFrom 78 = .ok (.istore 5, 2) := by decide +kernel
theorem dX11_ringFrom_80 : decode cX11_ringFrom 80 = .ok (.iinc 6 1, 3) := by decide +kernel
theorem dX11_ringFrom_83 : decode cX11_ringFrom 83 = .ok (.goto (-55), 3) := by decide +kernel
theorem dX11_ringFrom_86 : decode cX11_ringFrom 86 = .ok (.iload 5, 2) := by decide +kernel
theorem dX11_ringFrom_88 : decode cX11_ringFrom 88 = .ok (.ireturn, 1) := by decide +kernel
theorem dX11_ring_0 : decode cX11_ring 0 = .ok (.iconst 0, 1) := by decide +kernel
theorem dX11_ring_1 : decode cX11_ring 1 = .ok (.istore_n 1, 1) := by decide +kernel
theorem dX11_ring_2 : decode cX11_ring 2 = .ok (.iconst 0, 1) := by decide +kernel
theorem dX11_ring_3 : decode cX11_ring 3 = .ok (.istore_n 2, 1) := by decide +kernel
theorem dX11_ring_4 : decode cX11_ring 4 = .ok (.iload_n 2, 1) := by decide +kernel
theorem dX11_ring_5 : decode cX11_ring 5 = .ok (.aload_n 0, 1) := by decide +kernel
theorem dX11_ring_6 : decode cX11_ring 6 = .ok (.getfield 111, 3) := by decide +kernel
theorem dX11_ring_9 : decode cX11_ring 9 = .ok (.if_icmp .ge 24, 3) := by decide +kernel
theorem dX11_ring_12 : decode cX11_ring 12 = .ok (.iload_n 1, 1) := by decide +kernel
theorem dX11_ring_13 : decode cX11_ring 13 = .ok (.aload_n 0, 1) := by decide +kernel
theorem dX11_ring_14 : decode cX11_ring 14 = .ok (.iload_n 2, 1) := by decide +kernel
theorem dX11_ring_15 : decode cX11_ring 15 = .ok (.iload_n 2, 1) := by decide +kernel
theorem dX11_ring_16 : decode cX11_ring 16 = .ok (.iconst 1, 1) := by decide +kernel
theorem dX11_ring_17 : decode cX11_ring 17 = .ok (.iload_n 2, 1) := by decide +kernel
theorem dX11_ring_18 : decode cX11_ring 18 = .ok (.ishl, 1) := by decide +kernel
theorem dX11_ring_19 : decode cX11_ring 19 = .ok (.iconst 1, 1) := by decide +kernel
theorem dX11_ring_20 : decode cX11_ring 20 = .ok (.invokevirtual 253, 3) := by decide +kernel
theorem dX11_ring_23 : decode cX11_ring 23 = .ok (.invokestatic 242, 3) := by decide +kernel
theorem dX11_ring_26 : decode cX11_ring 26 = .ok (.istore_n 1, 1) := by decide +kernel
theorem dX11_ring_27 : decode cX11_ring 27 = .ok (.iinc 2 1, 3) := by decide +kernel
theorem dX11_ring_30 : decode cX11_ring 30 = .ok (.goto (-26), 3) := by decide +kernel
theorem dX11_ring_33 : decode cX11_ring 33 = .ok (.iload_n 1, 1) := by decide +kernel
theorem dX11_ring_34 : decode cX11_ring 34 = .ok (.ireturn, 1) := by decide +kernel
theorem dX11_backTo_0 : decode cX11_backTo 0 = .ok (.iconst 0, 1) := by decide +kernel
theorem dX11_backTo_1 : decode cX11_backTo 1 = .ok (.istore_n 2, 1) := by decide +kernel
theorem dX11_backTo_2 : decode cX11_backTo 2 = .ok (.iconst 0, 1) := by decide +kernel
theorem dX11_backTo_3 : decode cX11_backTo 3 = .ok (.istore_n 3, 1) := by decide +kernel
theorem dX11_backTo_4 : decode cX11_backTo 4 = .ok (.iload_n 3, 1) := by decide +kernel
theorem dX11_backTo_5 : decode cX11_backTo 5 = .ok (.bipush 12, 2) := by decide +kernel
theorem dX11_backTo_7 : decode cX11_backTo 7 = .ok (.if_icmp .ge 24, 3) := by decide +kernel
theorem dX11_backTo_10 : decode cX11_backTo 10 = .ok (.aload_n 0, 1) := by decide +kernel
theorem dX11_backTo_11 : decode cX11_backTo 11 = .ok (.getfield 15, 3) := by decide +kernel
theorem dX11_backTo_14 : decode cX11_backTo 14 = .ok (.iload_n 3, 1) := by decide +kernel
theorem dX11_backTo_15 : decode cX11_backTo 15 = .ok (.iaload, 1) := by decide +kernel
theorem dX11_backTo_16 : decode cX11_backTo 16 = .ok (.ifCond .le 9, 3) := by decide +kernel
theorem dX11_backTo_19 : decode cX11_backTo 19 = .ok (.iload_n 2, 1) := by decide +kernel
theorem dX11_backTo_20 : decode cX11_backTo 20 = .ok (.iconst 1, 1) := by decide +kernel
theorem dX11_backTo_21 : decode cX11_backTo 21 = .ok (.iload_n 3, 1) := by decide +kernel
theorem dX11_backTo_22 : decode cX11_backTo 22 = .ok (.ishl, 1) := by decide +kernel
theorem dX11_backTo_23 : decode cX11_backTo 23 = .ok (.ior, 1) := by decide +kernel
theorem dX11_backTo_24 : decode cX11_backTo 24 = .ok (.istore_n 2, 1) := by decide +kernel
theorem dX11_backTo_25 : decode cX11_backTo 25 = .ok (.iinc 3 1, 3) := by decide +kernel
theorem dX11_backTo_28 : decode cX11_backTo 28 = .ok (.goto (-24), 3) := by decide +kernel
theorem dX11_backTo_31 : decode cX11_backTo 31 = .ok (.iconst 0, 1) := by decide +kernel
theorem dX11_backTo_32 : decode cX11_backTo 32 = .ok (.istore_n 3, 1) := by decide +kernel
theorem dX11_backTo_33 : decode cX11_backTo 33 = .ok (.iload_n 3, 1) := by decide +kernel
theorem dX11_backTo_34 : decode cX11_backTo 34 = .ok (.aload_n 0, 1) := by decide +kernel
theorem dX11_backTo_35 : decode cX11_backTo 35 = .ok (.getfield 111, 3) := by decide +kernel
theorem dX11_backTo_38 : decode cX11_backTo 38 = .ok (.if_icmp .ge 23, 3) := by decide +kernel
theorem dX11_backTo_41 : decode cX11_backTo 41 = .ok (.iload_n 3, 1) := by decide +kernel
theorem dX11_backTo_42 : decode cX11_backTo 42 = .ok (.iload_n 1, 1) := by decide +kernel
theorem dX11_backTo_43 : decode cX11_backTo 43 = .ok (.if_icmp .eq 12, 3) := by decide +kernel
theorem dX11_backTo_46 : decode cX11_backTo 46 = .ok (.iload_n 2, 1) := by decide +kernel
theorem dX11_backTo_47 : decode cX11_backTo 47 = .ok (.aload_n 0, 1) := by decide +kernel
theorem dX11_backTo_48 : decode cX11_backTo 48 = .ok (.getfield 24, 3) := by decide +kernel
theorem dX11_backTo_51 : decode cX11_backTo 51 = .ok (.iload_n 3, 1) := by decide +kernel
theorem dX11_backTo_52 : decode cX11_backTo 52 = .ok (.iaload, 1) := by decide +kernel
theorem dX11_backTo_53 : decode cX11_backTo 53 = .ok (.ior, 1) := by decide +kernel
theorem dX11_backTo_54 : decode cX11_backTo 54 = .ok (.istore_n 2, 1) := by decide +kernel
theorem dX11_backTo_55 : decode cX11_backTo 55 = .ok (.iinc 3 1, 3) := by decide +kernel
theorem dX11_backTo_58 : decode cX11_backTo 58 = .ok (.goto (-25), 3) := by decide +kernel
theorem dX11_backTo_61 : decode cX11_backTo 61 = .ok (.iload_n 2, 1) := by decide +kernel
theorem dX11_backTo_62 : decode cX11_backTo 62 = .ok (.aload_n 0, 1) := by decide +kernel
theorem dX11_backTo_63 : decode cX11_backTo 63 = .ok (.getfield 27, 3) := by decide +kernel
theorem dX11_backTo_66 : decode cX11_backTo 66 = .ok (.iload_n 1, 1) := by decide +kernel
theorem dX11_backTo_67 : decode cX11_backTo 67 = .ok (.iaload, 1) := by decide +kernel
theorem dX11_backTo_68 : decode cX11_backTo 68 = .ok (.iand, 1) := by decide +kernel
theorem dX11_backTo_69 : decode cX11_backTo 69 = .ok (.aload_n 0, 1) := by decide +kernel
theorem dX11_backTo_70 : decode cX11_backTo 70 = .ok (.getfield 24, 3) := by decide +kernel
theorem dX11_backTo_73 : decode cX11_backTo 73 = .ok (.iload_n 1, 1) := by decide +kernel
theorem dX11_backTo_74 : decode cX11_backTo 74 = .ok (.iaload, 1) := by decide +kernel
theorem dX11_backTo_75 : decode cX11_backTo 75 = .ok (.iconst (-1), 1) := by decide +kernel
theorem dX11_backTo_76 : decode cX11_backTo 76 = .ok (.ixor, 1) := by decide +kernel
theorem dX11_backTo_77 : decode cX11_backTo 77 = .ok (.iand, 1) := by decide +kernel
theorem dX11_backTo_78 : decode cX11_backTo 78 = .ok (.ireturn, 1) := by decide +kernel
theorem dX11_told_0 : decode cX11_told 0 = .ok (.iload_n 1, 1) := by decide +kernel
theorem dX11_told_1 : decode cX11_told 1 = .ok (.bipush 10, 2) := by decide +kernel
theorem dX11_told_3 : decode cX11_told 3 = .ok (.isub, 1) := by decide +kernel
theorem dX11_told_4 : decode cX11_told 4 = .ok (.invokestatic 122, 3) := by decide +kernel
theorem dX11_told_7 : decode cX11_told 7 = .ok (.ifCond .eq 13, 3) := by decide +kernel
theorem dX11_told_10 : decode cX11_told 10 = .ok (.aload_n 0, 1) := by decide +kernel
theorem dX11_told_11 : decode cX11_told 11 = .ok (.getfield 15, 3) := by decide +kernel
theorem dX11_told_14 : decode cX11_told 14 = .ok (.iload_n 1, 1) := by decide +kernel
theorem dX11_told_15 : decode cX11_told 15 = .ok (.bipush 10, 2) := by decide +kernel
theorem dX11_told_17 : decode cX11_told 17 = .ok (.isub, 1) := by decide +kernel
theorem dX11_told_18 : decode cX11_told 18 = .ok (.iaload, 1) := by decide +kernel
theorem dX11_told_19 : decode cX11_told 19 = .ok (.ireturn, 1) := by decide +kernel
theorem dX11_told_20 : decode cX11_told 20 = .ok (.iload_n 1, 1) := by decide +kernel
theorem dX11_told_21 : decode cX11_told 21 = .ok (.bipush 30, 2) := by decide +kernel
theorem dX11_told_23 : decode cX11_told 23 = .ok (.isub, 1) := by decide +kernel
theorem dX11_told_24 : decode cX11_told 24 = .ok (.invokestatic 122, 3) := by decide +kernel
theorem dX11_told_27 : decode cX11_told 27 = .ok (.ifCond .eq 13, 3) := by decide +kernel
theorem dX11_told_30 : decode cX11_told 30 = .ok (.aload_n 0, 1) := by decide +kernel
theorem dX11_told_31 : decode cX11_told 31 = .ok (.getfield 9, 3) := by decide +kernel
theorem dX11_told_34 : decode cX11_told 34 = .ok (.iload_n 1, 1) := by decide +kernel
theorem dX11_told_35 : decode cX11_told 35 = .ok (.bipush 30, 2) := by decide +kernel
theorem dX11_told_37 : decode cX11_told 37 = .ok (.isub, 1) := by decide +kernel
theorem dX11_told_38 : decode cX11_told 38 = .ok (.iaload, 1) := by decide +kernel
theorem dX11_told_39 : decode cX11_told 39 = .ok (.ireturn, 1) := by decide +kernel
theorem dX11_told_40 : decode cX11_told 40 = .ok (.iload_n 1, 1) := by decide +kernel
theorem dX11_told_41 : decode cX11_told 41 = .ok (.tableswitch 60 0 4 #[35, 40, 45, 50, 55], 35) := by decide +kernel
theorem dX11_told_76 : decode cX11_told 76 = .ok (.aload_n 0, 1) := by decide +kernel
theorem dX11_told_77 : decode cX11_told 77 = .ok (.getfield 221, 3) := by decide +kernel
theorem dX11_told_80 : decode cX11_told 80 = .ok (.ireturn, 1) := by decide +kernel
theorem dX11_told_81 : decode cX11_told 81 = .ok (.aload_n 0, 1) := by decide +kernel
theorem dX11_told_82 : decode cX11_told 82 = .ok (.invokevirtual 239, 3) := by decide +kernel
theorem dX11_told_85 : decode cX11_told 85 = .ok (.ireturn, 1) := by decide +kernel
theorem dX11_told_86 : decode cX11_told 86 = .ok (.aload_n 0, 1) := by decide +kernel
theorem dX11_told_87 : decode cX11_told 87 = .ok (.invokevirtual 257, 3) := by decide +kernel
theorem dX11_told_90 : decode cX11_told 90 = .ok (.ireturn, 1) := by decide +kernel
theorem dX11_told_91 : decode cX11_told 91 = .ok (.aload_n 0, 1) := by decide +kernel
theorem dX11_told_92 : decode cX11_told 92 = .ok (.invokevirtual 260, 3) := by decide +kernel
theorem dX11_told_95 : decode cX11_told 95 = .ok (.ireturn, 1) := by decide +kernel
theorem dX11_told_96 : decode cX11_told 96 = .ok (.aload_n 0, 1) := by decide +kernel
theorem dX11_told_97 : decode cX11_told 97 = .ok (.invokevirtual 263, 3) := by decide +kernel
theorem dX11_told_100 : decode cX11_told 100 = .ok (.ireturn, 1) := by decide +kernel
theorem dX11_told_101 : decode cX11_told 101 = .ok (.iconst (-1), 1) := by decide +kernel
theorem dX11_told_102 : decode cX11_told 102 = .ok (.ireturn, 1) := by decide +kernel
theorem dX11_pass_0 : decode cX11_pass 0 = .ok (.iload_n 1, 1) := by decide +kernel
theorem dX11_pass_1 : decode cX11_pass 1 = .ok (.iconst 0, 1) := by decide +kernel
theorem dX11_pass_2 : decode cX11_pass 2 = .ok (.bipush 60, 2) := by decide +kernel
theorem dX11_pass_4 : decode cX11_pass 4 = .ok (.invokestatic 114, 3) := by decide +kernel
theorem dX11_pass_7 : decode cX11_pass 7 = .ok (.ifCond .ne 6, 3) := by decide +kernel
theorem dX11_pass_10 : decode cX11_pass 10 = .ok (.bipush (-2), 2) := by decide +kernel
theorem dX11_pass_12 : decode cX11_pass 12 = .ok (.ireturn, 1) := by decide +kernel
theorem dX11_pass_13 : decode cX11_pass 13 = .ok (.aload_n 0, 1) := by decide +kernel
theorem dX11_pass_14 : decode cX11_pass 14 = .ok (.getfield 221, 3) := by decide +kernel
theorem dX11_pass_17 : decode cX11_pass 17 = .ok (.iload_n 1, 1) := by decide +kernel
theorem dX11_pass_18 : decode cX11_pass 18 = .ok (.iadd, 1) := by decide +kernel
theorem dX11_pass_19 : decode cX11_pass 19 = .ok (.sipush 9999, 3) := by decide +kernel
theorem dX11_pass_22 : decode cX11_pass 22 = .ok (.if_icmp .le 6, 3) := by decide +kernel
theorem dX11_pass_25 : decode cX11_pass 25 = .ok (.bipush (-3), 2) := by decide +kernel
theorem dX11_pass_27 : decode cX11_pass 27 = .ok (.ireturn, 1) := by decide +kernel
theorem dX11_pass_28 : decode cX11_pass 28 = .ok (.iconst 0, 1) := by decide +kernel
theorem dX11_pass_29 : decode cX11_pass 29 = .ok (.istore_n 2, 1) := by decide +kernel
theorem dX11_pass_30 : decode cX11_pass 30 = .ok (.iload_n 2, 1) := by decide +kernel
theorem dX11_pass_31 : decode cX11_pass 31 = .ok (.iload_n 1, 1) := by decide +kernel
theorem dX11_pass_32 : decode cX11_pass 32 = .ok (.if_icmp .ge 13, 3) := by decide +kernel
theorem dX11_pass_35 : decode cX11_pass 35 = .ok (.aload_n 0, 1) := by decide +kernel
theorem dX11_pass_36 : decode cX11_pass 36 = .ok (.invokevirtual 266, 3) := by decide +kernel
theorem dX11_pass_39 : decode cX11_pass 39 = .ok (.iinc 2 1, 3) := by decide +kernel
theorem dX11_pass_42 : decode cX11_pass 42 = .ok (.goto (-12), 3) := by decide +kernel
theorem dX11_pass_45 : decode cX11_pass 45 = .ok (.aload_n 0, 1) := by decide +kernel
theorem dX11_pass_46 : decode cX11_pass 46 = .ok (.getfield 221, 3) := by decide +kernel
theorem dX11_pass_49 : decode cX11_pass 49 = .ok (.ireturn, 1) := by decide +kernel
theorem dX11_on_0 : decode cX11_on 0 = .ok (.iload_n 2, 1) := by decide +kernel
theorem dX11_on_1 : decode cX11_on 1 = .ok (.ifCond .eq 26, 3) := by decide +kernel
theorem dX11_on_4 : decode cX11_on 4 = .ok (.iload_n 2, 1) := by decide +kernel
theorem dX11_on_5 : decode cX11_on 5 = .ok (.bipush 10, 2) := by decide +kernel
theorem dX11_on_7 : decode cX11_on 7 = .ok (.isub, 1) := by decide +kernel
theorem dX11_on_8 : decode cX11_on 8 = .ok (.invokestatic 122, 3) := by decide +kernel
theorem dX11_on_11 : decode cX11_on 11 = .ok (.ifCond .ne 16, 3) := by decide +kernel
theorem dX11_on_14 : decode cX11_on 14 = .ok (.aload_n 0, 1) := by decide +kernel
theorem dX11_on_15 : decode cX11_on 15 = .ok (.iload_n 2, 1) := by decide +kernel
theorem dX11_on_16 : decode cX11_on 16 = .ok (.bipush 30, 2) := by decide +kernel
theorem dX11_on_18 : decode cX11_on 18 = .ok (.isub, 1) := by decide +kernel
theorem dX11_on_19 : decode cX11_on 19 = .ok (.invokevirtual 118, 3) := by decide +kernel
theorem dX11_on_22 : decode cX11_on 22 = .ok (.ifCond .ne 5, 3) := by decide +kernel
theorem dX11_on_25 : decode cX11_on 25 = .ok (.iconst (-1), 1) := by decide +kernel
theorem dX11_on_26 : decode cX11_on 26 = .ok (.ireturn, 1) := by decide +kernel
theorem dX11_on_27 : decode cX11_on 27 = .ok (.iload_n 1, 1) := by decide +kernel
theorem dX11_on_28 : decode cX11_on 28 = .ok (.iconst 0, 1) := by decide +kernel
theorem dX11_on_29 : decode cX11_on 29 = .ok (.bipush 60, 2) := by decide +kernel
theorem dX11_on_31 : decode cX11_on 31 = .ok (.invokestatic 114, 3) := by decide +kernel
theorem dX11_on_34 : decode cX11_on 34 = .ok (.ifCond .ne 6, 3) := by decide +kernel
theorem dX11_on_37 : decode cX11_on 37 = .ok (.bipush (-2), 2) := by decide +kernel
theorem dX11_on_39 : decode cX11_on 39 = .ok (.ireturn, 1) := by decide +kernel
theorem dX11_on_40 : decode cX11_on 40 = .ok (.aload_n 0, 1) := by decide +kernel
theorem dX11_on_41 : decode cX11_on 41 = .ok (.aload_n 0, 1) := by decide +kernel
theorem dX11_on_42 : decode cX11_on 42 = .ok (.getfield 91, 3) := by decide +kernel
theorem dX11_on_45 : decode cX11_on 45 = .ok (.invokevirtual 269, 3) := by decide +kernel
theorem dX11_on_48 : decode cX11_on 48 = .ok (.iconst 0, 1) := by decide +kernel
theorem dX11_on_49 : decode cX11_on 49 = .ok (.istore_n 3, 1) := by decide +kernel
theorem dX11_on_50 : decode cX11_on 50 = .ok (.iload_n 3, 1) := by decide +kernel
theorem dX11_on_51 : decode cX11_on 51 = .ok (.iload_n 1, 1) := by decide +kernel
theorem dX11_on_52 : decode cX11_on 52 = .ok (.if_icmp .ge 13, 3) := by decide +kernel
theorem dX11_on_55 : decode cX11_on 55 = .ok (.aload_n 0, 1) := by decide +kernel
theorem dX11_on_56 : decode cX11_on 56 = .ok (.invokevirtual 266, 3) := by decide +kernel
theorem dX11_on_59 : decode cX11_on 59 = .ok (.iinc 3 1, 3) := by decide +kernel
theorem dX11_on_62 : decode cX11_on 62 = .ok (.goto (-12), 3) := by decide +kernel
theorem dX11_on_65 : decode cX11_on 65 = .ok (.iload_n 2, 1) := by decide +kernel
theorem dX11_on_66 : decode cX11_on 66 = .ok (.ifCond .ne 10, 3) := by decide +kernel
theorem dX11_on_69 : decode cX11_on 69 = .ok (.aload_n 0, 1) := by decide +kernel
theorem dX11_on_70 : decode cX11_on 70 = .ok (.invokevirtual 257, 3) := by decide +kernel
theorem dX11_on_73 : decode cX11_on 73 = .ok (.goto 30, 3) := by decide +kernel
theorem dX11_on_76 : decode cX11_on 76 = .ok (.iload_n 2, 1) := by decide +kernel
theorem dX11_on_77 : decode cX11_on 77 = .ok (.bipush 30, 2) := by decide +kernel
theorem dX11_on_79 : decode cX11_on 79 = .ok (.if_icmp .ge 15, 3) := by decide +kernel
theorem dX11_on_82 : decode cX11_on 82 = .ok (.aload_n 0, 1) := by decide +kernel
theorem dX11_on_83 : decode cX11_on 83 = .ok (.getfield 15, 3) := by decide +kernel
theorem dX11_on_86 : decode cX11_on 86 = .ok (.iload_n 2, 1) := by decide +kernel
theorem dX11_on_87 : decode cX11_on 87 = .ok (.bipush 10, 2) := by decide +kernel
theorem dX11_on_89 : decode cX11_on 89 = .ok (.isub, 1) := by decide +kernel
theorem dX11_on_90 : decode cX11_on 90 = .ok (.iaload, 1) := by decide +kernel
theorem dX11_on_91 : decode cX11_on 91 = .ok (.goto 12, 3) := by decide +kernel
theorem dX11_on_94 : decode cX11_on 94 = .ok (.aload_n 0, 1) := by decide +kernel
theorem dX11_on_95 : decode cX11_on 95 = .ok (.getfield 24, 3) := by decide +kernel
theorem dX11_on_98 : decode cX11_on 98 = .ok (.iload_n 2, 1) := by decide +kernel
theorem dX11_on_99 : decode cX11_on 99 = .ok (.bipush 30, 2) := by decide +kernel
theorem dX11_on_101 : decode cX11_on 101 = .ok (.isub, 1) := by decide +kernel
theorem dX11_on_102 : decode cX11_on 102 = .ok (.iaload, 1) := by decide +kernel
theorem dX11_on_103 : decode cX11_on 103 = .ok (.istore_n 3, 1) := by decide +kernel
theorem dX11_on_104 : decode cX11_on 104 = .ok (.aload_n 0, 1) := by decide +kernel
theorem dX11_on_105 : decode cX11_on 105 = .ok (.aload_n 0, 1) := by decide +kernel
theorem dX11_on_106 : decode cX11_on 106 = .ok (.getfield 91, 3) := by decide +kernel
theorem dX11_on_109 : decode cX11_on 109 = .ok (.invokevirtual 273, 3) := by decide +kernel
theorem dX11_on_112 : decode cX11_on 112 = .ok (.iload_n 3, 1) := by decide +kernel
theorem dX11_on_113 : decode cX11_on 113 = .ok (.ireturn, 1) := by decide +kernel
theorem dX11_empty_0 : decode cX11_empty 0 = .ok (.aload_n 0, 1) := by decide +kernel
theorem dX11_empty_1 : decode cX11_empty 1 = .ok (.aload_n 0, 1) := by decide +kernel
theorem dX11_empty_2 : decode cX11_empty 2 = .ok (.getfield 91, 3) := by decide +kernel
theorem dX11_empty_5 : decode cX11_empty 5 = .ok (.invokevirtual 269, 3) := by decide +kernel
theorem dX11_empty_8 : decode cX11_empty 8 = .ok (.bipush (-5), 2) := by decide +kernel
theorem dX11_empty_10 : decode cX11_empty 10 = .ok (.istore_n 2, 1) := by decide +kernel
theorem dX11_empty_11 : decode cX11_empty 11 = .ok (.iconst 0, 1) := by decide +kernel
theorem dX11_empty_12 : decode cX11_empty 12 = .ok (.istore_n 3, 1) := by decide +kernel
theorem dX11_empty_13 : decode cX11_empty 13 = .ok (.iload_n 3, 1) := by decide +kernel
theorem dX11_empty_14 : decode cX11_empty 14 = .ok (.bipush 61, 2) := by decide +kernel
theorem dX11_empty_16 : decode cX11_empty 16 = .ok (.if_icmp .ge 34, 3) := by decide +kernel
theorem dX11_empty_19 : decode cX11_empty 19 = .ok (.iload_n 2, 1) := by decide +kernel
theorem dX11_empty_20 : decode cX11_empty 20 = .ok (.bipush (-5), 2) := by decide +kernel
theorem dX11_empty_22 : decode cX11_empty 22 = .ok (.if_icmp .ne 28, 3) := by decide +kernel
theorem dX11_empty_25 : decode cX11_empty 25 = .ok (.iload_n 3, 1) := by decide +kernel
theorem dX11_empty_26 : decode cX11_empty 26 = .ok (.ifCond .le 7, 3) := by decide +kernel
theorem dX11_empty_29 : decode cX11_empty 29 = .ok (.aload_n 0, 1) := by decide +kernel
theorem dX11_empty_30 : decode cX11_empty 30 = .ok (.invokevirtual 266, 3) := by decide +kernel
theorem dX11_empty_33 : decode cX11_empty 33 = .ok (.aload_n 0, 1) := by decide +kernel
theorem dX11_empty_34 : decode cX11_empty 34 = .ok (.getfield 24, 3) := by decide +kernel
theorem dX11_empty_37 : decode cX11_empty 37 = .ok (.iload_n 1, 1) := by decide +kernel
theorem dX11_empty_38 : decode cX11_empty 38 = .ok (.iaload, 1) := by decide +kernel
theorem dX11_empty_39 : decode cX11_empty 39 = .ok (.ifCond .ne 5, 3) := by decide +kernel
theorem dX11_empty_42 : decode cX11_empty 42 = .ok (.iload_n 3, 1) := by decide +kernel
theorem dX11_empty_43 : decode cX11_empty 43 = .ok (.istore_n 2, 1) := by decide +kernel
theorem dX11_empty_44 : decode cX11_empty 44 = .ok (.iinc 3 1, 3) := by decide +kernel
theorem dX11_empty_47 : decode cX11_empty 47 = .ok (.goto (-34), 3) := by decide +kernel
theorem dX11_empty_50 : decode cX11_empty 50 = .ok (.aload_n 0, 1) := by decide +kernel
theorem dX11_empty_51 : decode cX11_empty 51 = .ok (.aload_n 0, 1) := by decide +kernel
theorem dX11_empty_52 : decode cX11_empty 52 = .ok (.getfield 91, 3) := by decide +kernel
theorem dX11_empty_55 : decode cX11_empty 55 = .ok (.invokevirtual 273, 3) := by decide +kernel
theorem dX11_empty_58 : decode cX11_empty 58 = .ok (.iload_n 2, 1) := by decide +kernel
theorem dX11_empty_59 : decode cX11_empty 59 = .ok (.ireturn, 1) := by decide +kernel
theorem dX11_lasts_0 : decode cX11_lasts 0 = .ok (.aload_n 0, 1) := by decide +kernel
theorem dX11_lasts_1 : decode cX11_lasts 1 = .ok (.iload_n 1, 1) := by decide +kernel
theorem dX11_lasts_2 : decode cX11_lasts 2 = .ok (.invokevirtual 118, 3) := by decide +kernel
theorem dX11_lasts_5 : decode cX11_lasts 5 = .ok (.ifCond .eq 10, 3) := by decide +kernel
theorem dX11_lasts_8 : decode cX11_lasts 8 = .ok (.iload_n 2, 1) := by decide +kernel
theorem dX11_lasts_9 : decode cX11_lasts 9 = .ok (.invokestatic 122, 3) := by decide +kernel
theorem dX11_lasts_12 : decode cX11_lasts 12 = .ok (.ifCond .ne 5, 3) := by decide +kernel
theorem dX11_lasts_15 : decode cX11_lasts 15 = .ok (.iconst (-1), 1) := by decide +kernel
theorem dX11_lasts_16 : decode cX11_lasts 16 = .ok (.ireturn, 1) := by decide +kernel
theorem dX11_lasts_17 : decode cX11_lasts 17 = .ok (.aload_n 0, 1) := by decide +kernel
theorem dX11_lasts_18 : decode cX11_lasts 18 = .ok (.getfield 24, 3) := by decide +kernel
theorem dX11_lasts_21 : decode cX11_lasts 21 = .ok (.iload_n 1, 1) := by decide +kernel
theorem dX11_lasts_22 : decode cX11_lasts 22 = .ok (.iaload, 1) := by decide +kernel
theorem dX11_lasts_23 : decode cX11_lasts 23 = .ok (.iload_n 2, 1) := by decide +kernel
theorem dX11_lasts_24 : decode cX11_lasts 24 = .ok (.invokestatic 139, 3) := by decide +kernel
theorem dX11_lasts_27 : decode cX11_lasts 27 = .ok (.ifCond .ne 6, 3) := by decide +kernel
theorem dX11_lasts_30 : decode cX11_lasts 30 = .ok (.bipush (-5), 2) := by decide +kernel
theorem dX11_lasts_32 : decode cX11_lasts 32 = .ok (.ireturn, 1) := by decide +kernel
theorem dX11_lasts_33 : decode cX11_lasts 33 = .ok (.aload_n 0, 1) := by decide +kernel
theorem dX11_lasts_34 : decode cX11_lasts 34 = .ok (.aload_n 0, 1) := by decide +kernel
theorem dX11_lasts_35 : decode cX11_lasts 35 = .ok (.getfield 91, 3) := by decide +kernel
theorem dX11_lasts_38 : decode cX11_lasts 38 = .ok (.invokevirtual 269, 3) := by decide +kernel
theorem dX11_lasts_41 : decode cX11_lasts 41 = .ok (.bipush (-5), 2) := by decide +kernel
theorem dX11_lasts_43 : decode cX11_lasts 43 = .ok (.istore_n 3, 1) := by decide +kernel
theorem dX11_lasts_44 : decode cX11_lasts 44 = .ok (.iconst 1, 1) := by decide +kernel
theorem dX11_lasts_45 : decode cX11_lasts 45 = .ok (.istore 4, 2) := by decide +kernel
theorem dX11_lasts_47 : decode cX11_lasts 47 = .ok (.iload 4, 2) := by decide +kernel
theorem dX11_lasts_49 : decode cX11_lasts 49 = .ok (.bipush 61, 2) := by decide +kernel
theorem dX11_lasts_51 : decode cX11_lasts 51 = .ok (.if_icmp .ge 35, 3) := by decide +kernel
theorem dX11_lasts_54 : decode cX11_lasts 54 = .ok (.iload_n 3, 1) := by decide +kernel
theorem dX11_lasts_55 : decode cX11_lasts 55 = .ok (.bipush (-5), 2) := by decide +kernel
theorem dX11_lasts_57 : decode cX11_lasts 57 = .ok (.if_icmp .ne 29, 3) := by decide +kernel
theorem dX11_lasts_60 : decode cX11_lasts 60 = .ok (.aload_n 0, 1) := by decide +kernel
theorem dX11_lasts_61 : decode cX11_lasts 61 = .ok (.invokevirtual 266, 3) := by decide +kernel
theorem dX11_lasts_64 : decode cX11_lasts 64 = .ok (.aload_n 0, 1) := by decide +kernel
theorem dX11_lasts_65 : decode cX11_lasts 65 = .ok (.getfield 24, 3) := by decide +kernel
theorem dX11_lasts_68 : decode cX11_lasts 68 = .ok (.iload_n 1, 1) := by decide +kernel
theorem dX11_lasts_69 : decode cX11_lasts 69 = .ok (.iaload, 1) := by decide +kernel
theorem dX11_lasts_70 : decode cX11_lasts 70 = .ok (.iload_n 2, 1) := by decide +kernel
theorem dX11_lasts_71 : decode cX11_lasts 71 = .ok (.invokestatic 139, 3) := by decide +kernel
theorem dX11_lasts_74 : decode cX11_lasts 74 = .ok (.ifCond .ne 6, 3) := by decide +kernel
theorem dX11_lasts_77 : decode cX11_lasts 77 = .ok (.iload 4, 2) := by decide +kernel
theorem dX11_lasts_79 : decode cX11_lasts 79 = .ok (.istore_n 3, 1) := by decide +kernel
theorem dX11_lasts_80 : decode cX11_lasts 80 = .ok (.iinc 4 1, 3) := by decide +kernel
theorem dX11_lasts_83 : decode cX11_lasts 83 = .ok (.goto (-36), 3) := by decide +kernel
theorem dX11_lasts_86 : decode cX11_lasts 86 = .ok (.aload_n 0, 1) := by decide +kernel
theorem dX11_lasts_87 : decode cX11_lasts 87 = .ok (.aload_n 0, 1) := by decide +kernel
theorem dX11_lasts_88 : decode cX11_lasts 88 = .ok (.getfield 91, 3) := by decide +kernel
theorem dX11_lasts_91 : decode cX11_lasts 91 = .ok (.invokevirtual 273, 3) := by decide +kernel
theorem dX11_lasts_94 : decode cX11_lasts 94 = .ok (.iload_n 3, 1) := by decide +kernel
theorem dX11_lasts_95 : decode cX11_lasts 95 = .ok (.ireturn, 1) := by decide +kernel
theorem dX11_goesOne_0 : decode cX11_goesOne 0 = .ok (.aload_n 0, 1) := by decide +kernel
theorem dX11_goesOne_1 : decode cX11_goesOne 1 = .ok (.iload_n 1, 1) := by decide +kernel
theorem dX11_goesOne_2 : decode cX11_goesOne 2 = .ok (.invokevirtual 129, 3) := by decide +kernel
theorem dX11_goesOne_5 : decode cX11_goesOne 5 = .ok (.istore_n 2, 1) := by decide +kernel
theorem dX11_goesOne_6 : decode cX11_goesOne 6 = .ok (.iload_n 2, 1) := by decide +kernel
theorem dX11_goesOne_7 : decode cX11_goesOne 7 = .ok (.bipush (-5), 2) := by decide +kernel
theorem dX11_goesOne_9 : decode cX11_goesOne 9 = .ok (.if_icmp .eq 29, 3) := by decide +kernel
theorem dX11_goesOne_12 : decode cX11_goesOne 12 = .ok (.aload_n 0, 1) := by decide +kernel
theorem dX11_goesOne_13 : decode cX11_goesOne 13 = .ok (.getfield 24, 3) := by decide +kernel
theorem dX11_goesOne_16 : decode cX11_goesOne 16 = .ok (.iload_n 1, 1) := by decide +kernel
theorem dX11_goesOne_17 : decode cX11_goesOne 17 = .ok (.dup2, 1) := by decide +kernel
theorem dX11_goesOne_18 : decode cX11_goesOne 18 = .ok (.iaload, 1) := by decide +kernel
theorem dX11_goesOne_19 : decode cX11_goesOne 19 = .ok (.iconst 1, 1) := by decide +kernel
theorem dX11_goesOne_20 : decode cX11_goesOne 20 = .ok (.iload_n 2, 1) := by decide +kernel
theorem dX11_goesOne_21 : decode cX11_goesOne 21 = .ok (.ishl, 1) := by decide +kernel
theorem dX11_goesOne_22 : decode cX11_goesOne 22 = .ok (.iconst (-1), 1) := by decide +kernel
theorem dX11_goesOne_23 : decode cX11_goesOne 23 = .ok (.ixor, 1) := by decide +kernel
theorem dX11_goesOne_24 : decode cX11_goesOne 24 = .ok (.iand, 1) := by decide +kernel
theorem dX11_goesOne_25 : decode cX11_goesOne 25 = .ok (.iastore, 1) := by decide +kernel
theorem dX11_goesOne_26 : decode cX11_goesOne 26 = .ok (.aload_n 0, 1) := by decide +kernel
theorem dX11_goesOne_27 : decode cX11_goesOne 27 = .ok (.getfield 27, 3) := by decide +kernel
theorem dX11_goesOne_30 : decode cX11_goesOne 30 = .ok (.iload_n 1, 1) := by decide +kernel
theorem dX11_goesOne_31 : decode cX11_goesOne 31 = .ok (.dup2, 1) := by decide +kernel
theorem dX11_goesOne_32 : decode cX11_goesOne 32 = .ok (.iaload, 1) := by decide +kernel
theorem dX11_goesOne_33 : decode cX11_goesOne 33 = .ok (.iconst 1, 1) := by decide +kernel
theorem dX11_goesOne_34 : decode cX11_goesOne 34 = .ok (.iload_n 2, 1) := by decide +kernel
theorem dX11_goesOne_35 : decode cX11_goesOne 35 = .ok (.ishl, 1) := by decide +kernel
theorem dX11_goesOne_36 : decode cX11_goesOne 36 = .ok (.ior, 1) := by decide +kernel
theorem dX11_goesOne_37 : decode cX11_goesOne 37 = .ok (.iastore, 1) := by decide +kernel
theorem dX11_goesOne_38 : decode cX11_goesOne 38 = .ok (.aload_n 0, 1) := by decide +kernel
theorem dX11_goesOne_39 : decode cX11_goesOne 39 = .ok (.dup, 1) := by decide +kernel
theorem dX11_goesOne_40 : decode cX11_goesOne 40 = .ok (.getfield 221, 3) := by decide +kernel
theorem dX11_goesOne_43 : decode cX11_goesOne 43 = .ok (.iconst 1, 1) := by decide +kernel
theorem dX11_goesOne_44 : decode cX11_goesOne 44 = .ok (.iadd, 1) := by decide +kernel
theorem dX11_goesOne_45 : decode cX11_goesOne 45 = .ok (.putfield 221, 3) := by decide +kernel
theorem dX11_goesOne_48 : decode cX11_goesOne 48 = .ok (.return_, 1) := by decide +kernel
theorem dX11_restores_0 : decode cX11_restores 0 = .ok (.aload_n 0, 1) := by decide +kernel
theorem dX11_restores_1 : decode cX11_restores 1 = .ok (.getfield 24, 3) := by decide +kernel
theorem dX11_restores_4 : decode cX11_restores 4 = .ok (.iload_n 1, 1) := by decide +kernel
theorem dX11_restores_5 : decode cX11_restores 5 = .ok (.iload_n 2, 1) := by decide +kernel
theorem dX11_restores_6 : decode cX11_restores 6 = .ok (.iastore, 1) := by decide +kernel
theorem dX11_restores_7 : decode cX11_restores 7 = .ok (.aload_n 0, 1) := by decide +kernel
theorem dX11_restores_8 : decode cX11_restores 8 = .ok (.getfield 27, 3) := by decide +kernel
theorem dX11_restores_11 : decode cX11_restores 11 = .ok (.iload_n 1, 1) := by decide +kernel
theorem dX11_restores_12 : decode cX11_restores 12 = .ok (.iload_n 3, 1) := by decide +kernel
theorem dX11_restores_13 : decode cX11_restores 13 = .ok (.iastore, 1) := by decide +kernel
theorem dX11_restores_14 : decode cX11_restores 14 = .ok (.aload_n 0, 1) := by decide +kernel
theorem dX11_restores_15 : decode cX11_restores 15 = .ok (.iload 4, 2) := by decide +kernel
theorem dX11_restores_17 : decode cX11_restores 17 = .ok (.putfield 221, 3) := by decide +kernel
theorem dX11_restores_20 : decode cX11_restores 20 = .ok (.return_, 1) := by decide +kernel
theorem dX11_decoys_0 : decode cX11_decoys 0 = .ok (.aload_n 0, 1) := by decide +kernel
theorem dX11_decoys_1 : decode cX11_decoys 1 = .ok (.iload_n 1, 1) := by decide +kernel
theorem dX11_decoys_2 : decode cX11_decoys 2 = .ok (.invokevirtual 118, 3) := by decide +kernel
theorem dX11_decoys_5 : decode cX11_decoys 5 = .ok (.ifCond .eq 10, 3) := by decide +kernel
theorem dX11_decoys_8 : decode cX11_decoys 8 = .ok (.iload_n 2, 1) := by decide +kernel
theorem dX11_decoys_9 : decode cX11_decoys 9 = .ok (.invokestatic 122, 3) := by decide +kernel
theorem dX11_decoys_12 : decode cX11_decoys 12 = .ok (.ifCond .ne 5, 3) := by decide +kernel
theorem dX11_decoys_15 : decode cX11_decoys 15 = .ok (.iconst (-1), 1) := by decide +kernel
theorem dX11_decoys_16 : decode cX11_decoys 16 = .ok (.ireturn, 1) := by decide +kernel
theorem dX11_decoys_17 : decode cX11_decoys 17 = .ok (.iload_n 3, 1) := by decide +kernel
theorem dX11_decoys_18 : decode cX11_decoys 18 = .ok (.iconst 1, 1) := by decide +kernel
theorem dX11_decoys_19 : decode cX11_decoys 19 = .ok (.bipush 6, 2) := by decide +kernel
theorem dX11_decoys_21 : decode cX11_decoys 21 = .ok (.invokestatic 114, 3) := by decide +kernel
theorem dX11_decoys_24 : decode cX11_decoys 24 = .ok (.ifCond .ne 6, 3) := by decide +kernel
theorem dX11_decoys_27 : decode cX11_decoys 27 = .ok (.bipush (-2), 2) := by decide +kernel
theorem dX11_decoys_29 : decode cX11_decoys 29 = .ok (.ireturn, 1) := by decide +kernel
theorem dX11_decoys_30 : decode cX11_decoys 30 = .ok (.aload_n 0, 1) := by decide +kernel
theorem dX11_decoys_31 : decode cX11_decoys 31 = .ok (.getfield 24, 3) := by decide +kernel
theorem dX11_decoys_34 : decode cX11_decoys 34 = .ok (.iload_n 1, 1) := by decide +kernel
theorem dX11_decoys_35 : decode cX11_decoys 35 = .ok (.iaload, 1) := by decide +kernel
theorem dX11_decoys_36 : decode cX11_decoys 36 = .ok (.iload_n 2, 1) := by decide +kernel
theorem dX11_decoys_37 : decode cX11_decoys 37 = .ok (.invokestatic 139, 3) := by decide +kernel
theorem dX11_decoys_40 : decode cX11_decoys 40 = .ok (.ifCond .ne 6, 3) := by decide +kernel
theorem dX11_decoys_43 : decode cX11_decoys 43 = .ok (.bipush (-5), 2) := by decide +kernel
theorem dX11_decoys_45 : decode cX11_decoys 45 = .ok (.ireturn, 1) := by decide +kernel
theorem dX11_decoys_46 : decode cX11_decoys 46 = .ok (.aload_n 0, 1) := by decide +kernel
theorem dX11_decoys_47 : decode cX11_decoys 47 = .ok (.getfield 24, 3) := by decide +kernel
theorem dX11_decoys_50 : decode cX11_decoys 50 = .ok (.iload_n 1, 1) := by decide +kernel
theorem dX11_decoys_51 : decode cX11_decoys 51 = .ok (.iaload, 1) := by decide +kernel
theorem dX11_decoys_52 : decode cX11_decoys 52 = .ok (.istore 4, 2) := by decide +kernel
theorem dX11_decoys_54 : decode cX11_decoys 54 = .ok (.aload_n 0, 1) := by decide +kernel
theorem dX11_decoys_55 : decode cX11_decoys 55 = .ok (.getfield 27, 3) := by decide +kernel
theorem dX11_decoys_58 : decode cX11_decoys 58 = .ok (.iload_n 1, 1) := by decide +kernel
theorem dX11_decoys_59 : decode cX11_decoys 59 = .ok (.iaload, 1) := by decide +kernel
theorem dX11_decoys_60 : decode cX11_decoys 60 = .ok (.istore 5, 2) := by decide +kernel
theorem dX11_decoys_62 : decode cX11_decoys 62 = .ok (.aload_n 0, 1) := by decide +kernel
theorem dX11_decoys_63 : decode cX11_decoys 63 = .ok (.getfield 221, 3) := by decide +kernel
theorem dX11_decoys_66 : decode cX11_decoys 66 = .ok (.istore 6, 2) := by decide +kernel
theorem dX11_decoys_68 : decode cX11_decoys 68 = .ok (.bipush (-5), 2) := by decide +kernel
theorem dX11_decoys_70 : decode cX11_decoys 70 = .ok (.istore 7, 2) := by decide +kernel
theorem dX11_decoys_72 : decode cX11_decoys 72 = .ok (.iconst 0, 1) := by decide +kernel
theorem dX11_decoys_73 : decode cX11_decoys 73 = .ok (.istore 8, 2) := by decide +kernel
theorem dX11_decoys_75 : decode cX11_decoys 75 = .ok (.iload 8, 2) := by decide +kernel
theorem dX11_decoys_77 : decode cX11_decoys 77 = .ok (.sipush 4096, 3) := by decide +kernel
theorem dX11_decoys_80 : decode cX11_decoys 80 = .ok (.if_icmp .ge 99, 3) := by decide +kernel
theorem dX11_decoys_83 : decode cX11_decoys 83 = .ok (.iload 8, 2) := by decide +kernel
theorem dX11_decoys_85 : decode cX11_decoys 85 = .ok (.iload 4, 2) := by decide +kernel
theorem dX11_decoys_87 : decode cX11_decoys 87 = .ok (.iand, 1) := by decide +kernel
theorem dX11_decoys_88 : decode cX11_decoys 88 = .ok (.ifCond .ne 85, 3) := by decide +kernel
theorem dX11_decoys_91 : decode cX11_decoys 91 = .ok (.iload 7, 2) := by decide +kernel
theorem dX11_decoys_93 : decode cX11_decoys 93 = .ok (.bipush (-5), 2) := by decide +kernel
theorem dX11_decoys_95 : decode cX11_decoys 95 = .ok (.if_icmp .eq 19, 3) := by decide +kernel
theorem dX11_decoys_98 : decode cX11_decoys 98 = .ok (.iload 8, 2) := by decide +kernel
theorem dX11_decoys_100 : decode cX11_decoys 100 = .ok (.invokestatic 245, 3) := by decide +kernel
theorem dX11_decoys_103 : decode cX11_decoys 103 = .ok (.iload 7, 2) := by decide +kernel
theorem dX11_decoys_105 : decode cX11_decoys 105 = .ok (.invokestatic 245, 3) := by decide +kernel
theorem dX11_decoys_108 : decode cX11_decoys 108 = .ok (.if_icmp .lt 6, 3) := by decide +kernel
theorem dX11_decoys_111 : decode cX11_decoys 111 = .ok (.goto 62, 3) := by decide +kernel
theorem dX11_decoys_114 : decode cX11_decoys 114 = .ok (.aload_n 0, 1) := by decide +kernel
theorem dX11_decoys_115 : decode cX11_decoys 115 = .ok (.getfield 24, 3) := by decide +kernel
theorem dX11_decoys_118 : decode cX11_decoys 118 = .ok (.iload_n 1, 1) := by decide +kernel
theorem dX11_decoys_119 : decode cX11_decoys 119 = .ok (.iload 4, 2) := by decide +kernel
theorem dX11_decoys_121 : decode cX11_decoys 121 = .ok (.iload 8, 2) := by decide +kernel
theorem dX11_decoys_123 : decode cX11_decoys 123 = .ok (.ior, 1) := by decide +kernel
theorem dX11_decoys_124 : decode cX11_decoys 124 = .ok (.iastore, 1) := by decide +kernel
theorem dX11_decoys_125 : decode cX11_decoys 125 = .ok (.iconst 0, 1) := by decide +kernel
theorem dX11_decoys_126 : decode cX11_decoys 126 = .ok (.istore 9, 2) := by decide +kernel
theorem dX11_decoys_128 : decode cX11_decoys 128 = .ok (.iload 9, 2) := by decide +kernel
theorem dX11_decoys_130 : decode cX11_decoys 130 = .ok (.iload_n 3, 1) := by decide +kernel
theorem dX11_decoys_131 : decode cX11_decoys 131 = .ok (.if_icmp .ge 14, 3) := by decide +kernel
theorem dX11_decoys_134 : decode cX11_decoys 134 = .ok (.aload_n 0, 1) := by decide +kernel
theorem dX11_decoys_135 : decode cX11_decoys 135 = .ok (.iload_n 1, 1) := by decide +kernel
theorem dX11_decoys_136 : decode cX11_decoys 136 = .ok (.invokevirtual 276, 3) := by decide +kernel
theorem dX11_decoys_139 : decode cX11_decoys 139 = .ok (.iinc 9 1, 3) := by decide +kernel
theorem dX11_decoys_142 : decode cX11_decoys 142 = .ok (.goto (-14), 3) := by decide +kernel
theorem dX11_decoys_145 : decode cX11_decoys 145 = .ok (.aload_n 0, 1) := by decide +kernel
theorem dX11_decoys_146 : decode cX11_decoys 146 = .ok (.getfield 24, 3) := by decide +kernel
theorem dX11_decoys_149 : decode cX11_decoys 149 = .ok (.iload_n 1, 1) := by decide +kernel
theorem dX11_decoys_150 : decode cX11_decoys 150 = .ok (.iaload, 1) := by decide +kernel
theorem dX11_decoys_151 : decode cX11_decoys 151 = .ok (.iload_n 2, 1) := by decide +kernel
theorem dX11_decoys_152 : decode cX11_decoys 152 = .ok (.invokestatic 139, 3) := by decide +kernel
theorem dX11_decoys_155 : decode cX11_decoys 155 = .ok (.ifCond .eq 7, 3) := by decide +kernel
theorem dX11_decoys_158 : decode cX11_decoys 158 = .ok (.iload 8, 2) := by decide +kernel
theorem dX11_decoys_160 : decode cX11_decoys 160 = .ok (.istore 7, 2) := by decide +kernel
theorem dX11_decoys_162 : decode cX11_decoys 162 = .ok (.aload_n 0, 1) := by decide +kernel
theorem dX11_decoys_163 : decode cX11_decoys 163 = .ok (.iload_n 1, 1) := by decide +kernel
theorem dX11_decoys_164 : decode cX11_decoys 164 = .ok (.iload 4, 2) := by decide +kernel
theorem dX11_decoys_166 : decode cX11_decoys 166 = .ok (.iload 5, 2) := by decide +kernel
theorem dX11_decoys_168 : decode cX11_decoys 168 = .ok (.iload 6, 2) := by decide +kernel
theorem dX11_decoys_170 : decode cX11_decoys 170 = .ok (.invokevirtual 280, 3) := by decide +kernel
theorem dX11_decoys_173 : decode cX11_decoys 173 = .ok (.iinc 8 1, 3) := by decide +kernel
theorem dX11_decoys_176 : decode cX11_decoys 176 = .ok (.goto (-101), 3) := by decide +kernel
theorem dX11_decoys_179 : decode cX11_decoys 179 = .ok (.iload 7, 2) := by decide +kernel
theorem dX11_decoys_181 : decode cX11_decoys 181 = .ok (.ireturn, 1) := by decide +kernel
theorem dX11_see_0 : decode cX11_see 0 = .ok (.iload_n 1, 1) := by decide +kernel
theorem dX11_see_1 : decode cX11_see 1 = .ok (.iconst (-1), 1) := by decide +kernel
theorem dX11_see_2 : decode cX11_see 2 = .ok (.if_icmp .ne 10, 3) := by decide +kernel
theorem dX11_see_5 : decode cX11_see 5 = .ok (.aload_n 0, 1) := by decide +kernel
theorem dX11_see_6 : decode cX11_see 6 = .ok (.iconst 0, 1) := by decide +kernel
theorem dX11_see_7 : decode cX11_see 7 = .ok (.putfield 284, 3) := by decide +kernel
theorem dX11_see_10 : decode cX11_see 10 = .ok (.iconst 0, 1) := by decide +kernel
theorem dX11_see_11 : decode cX11_see 11 = .ok (.ireturn, 1) := by decide +kernel
theorem dX11_see_12 : decode cX11_see 12 = .ok (.aload_n 0, 1) := by decide +kernel
theorem dX11_see_13 : decode cX11_see 13 = .ok (.iload_n 1, 1) := by decide +kernel
theorem dX11_see_14 : decode cX11_see 14 = .ok (.invokevirtual 118, 3) := by decide +kernel
theorem dX11_see_17 : decode cX11_see 17 = .ok (.ifCond .eq 10, 3) := by decide +kernel
theorem dX11_see_20 : decode cX11_see 20 = .ok (.iload_n 3, 1) := by decide +kernel
theorem dX11_see_21 : decode cX11_see 21 = .ok (.invokestatic 122, 3) := by decide +kernel
theorem dX11_see_24 : decode cX11_see 24 = .ok (.ifCond .ne 5, 3) := by decide +kernel
theorem dX11_see_27 : decode cX11_see 27 = .ok (.iconst (-1), 1) := by decide +kernel
theorem dX11_see_28 : decode cX11_see 28 = .ok (.ireturn, 1) := by decide +kernel
theorem dX11_see_29 : decode cX11_see 29 = .ok (.iload_n 2, 1) := by decide +kernel
theorem dX11_see_30 : decode cX11_see 30 = .ok (.iconst 0, 1) := by decide +kernel
theorem dX11_see_31 : decode cX11_see 31 = .ok (.bipush 12, 2) := by decide +kernel
theorem dX11_see_33 : decode cX11_see 33 = .ok (.invokestatic 114, 3) := by decide +kernel
theorem dX11_see_36 : decode cX11_see 36 = .ok (.ifCond .ne 6, 3) := by decide +kernel
theorem dX11_see_39 : decode cX11_see 39 = .ok (.bipush (-2), 2) := by decide +kernel
theorem dX11_see_41 : decode cX11_see 41 = .ok (.ireturn, 1) := by decide +kernel
theorem dX11_see_42 : decode cX11_see 42 = .ok (.aload_n 0, 1) := by decide +kernel
theorem dX11_see_43 : decode cX11_see 43 = .ok (.getfield 284, 3) := by decide +kernel
theorem dX11_see_46 : decode cX11_see 46 = .ok (.iconst 5, 1) := by decide +kernel
theorem dX11_see_47 : decode cX11_see 47 = .ok (.if_icmp .ne 6, 3) := by decide +kernel
theorem dX11_see_50 : decode cX11_see 50 = .ok (.bipush (-4), 2) := by decide +kernel
theorem dX11_see_52 : decode cX11_see 52 = .ok (.ireturn, 1) := by decide +kernel
theorem dX11_see_53 : decode cX11_see 53 = .ok (.aload_n 0, 1) := by decide +kernel
theorem dX11_see_54 : decode cX11_see 54 = .ok (.getfield 61, 3) := by decide +kernel
theorem dX11_see_57 : decode cX11_see 57 = .ok (.aload_n 0, 1) := by decide +kernel
theorem dX11_see_58 : decode cX11_see 58 = .ok (.getfield 284, 3) := by decide +kernel
theorem dX11_see_61 : decode cX11_see 61 = .ok (.iload_n 1, 1) := by decide +kernel
theorem dX11_see_62 : decode cX11_see 62 = .ok (.iastore, 1) := by decide +kernel
theorem dX11_see_63 : decode cX11_see 63 = .ok (.aload_n 0, 1) := by decide +kernel
theorem dX11_see_64 : decode cX11_see 64 = .ok (.getfield 64, 3) := by decide +kernel
theorem dX11_see_67 : decode cX11_see 67 = .ok (.aload_n 0, 1) := by decide +kernel
theorem dX11_see_68 : decode cX11_see 68 = .ok (.getfield 284, 3) := by decide +kernel
theorem dX11_see_71 : decode cX11_see 71 = .ok (.iload_n 2, 1) := by decide +kernel
theorem dX11_see_72 : decode cX11_see 72 = .ok (.iastore, 1) := by decide +kernel
theorem dX11_see_73 : decode cX11_see 73 = .ok (.aload_n 0, 1) := by decide +kernel
theorem dX11_see_74 : decode cX11_see 74 = .ok (.getfield 67, 3) := by decide +kernel
theorem dX11_see_77 : decode cX11_see 77 = .ok (.aload_n 0, 1) := by decide +kernel
theorem dX11_see_78 : decode cX11_see 78 = .ok (.getfield 284, 3) := by decide +kernel
theorem dX11_see_81 : decode cX11_see 81 = .ok (.iload_n 3, 1) := by decide +kernel
theorem dX11_see_82 : decode cX11_see 82 = .ok (.iastore, 1) := by decide +kernel
theorem dX11_see_83 : decode cX11_see 83 = .ok (.aload_n 0, 1) := by decide +kernel
theorem dX11_see_84 : decode cX11_see 84 = .ok (.getfield 70, 3) := by decide +kernel
theorem dX11_see_87 : decode cX11_see 87 = .ok (.aload_n 0, 1) := by decide +kernel
theorem dX11_see_88 : decode cX11_see 88 = .ok (.dup, 1) := by decide +kernel
theorem dX11_see_89 : decode cX11_see 89 = .ok (.getfield 284, 3) := by decide +kernel
theorem dX11_see_92 : decode cX11_see 92 = .ok (.dup_x1, 1) := by decide +kernel
theorem dX11_see_93 : decode cX11_see 93 = .ok (.iconst 1, 1) := by decide +kernel
theorem dX11_see_94 : decode cX11_see 94 = .ok (.iadd, 1) := by decide +kernel
theorem dX11_see_95 : decode cX11_see 95 = .ok (.putfield 284, 3) := by decide +kernel
theorem dX11_see_98 : decode cX11_see 98 = .ok (.iload 4, 2) := by decide +kernel
theorem dX11_see_100 : decode cX11_see 100 = .ok (.ifCond .eq 7, 3) := by decide +kernel
theorem dX11_see_103 : decode cX11_see 103 = .ok (.iconst 1, 1) := by decide +kernel
theorem dX11_see_104 : decode cX11_see 104 = .ok (.goto 4, 3) := by decide +kernel
theorem dX11_see_107 : decode cX11_see 107 = .ok (.iconst 0, 1) := by decide +kernel
theorem dX11_see_108 : decode cX11_see 108 = .ok (.iastore, 1) := by decide +kernel
theorem dX11_see_109 : decode cX11_see 109 = .ok (.aload_n 0, 1) := by decide +kernel
theorem dX11_see_110 : decode cX11_see 110 = .ok (.getfield 284, 3) := by decide +kernel
theorem dX11_see_113 : decode cX11_see 113 = .ok (.ireturn, 1) := by decide +kernel
theorem dX11_isSeen_0 : decode cX11_isSeen 0 = .ok (.aload_n 0, 1) := by decide +kernel
theorem dX11_isSeen_1 : decode cX11_isSeen 1 = .ok (.getfield 24, 3) := by decide +kernel
theorem dX11_isSeen_4 : decode cX11_isSeen 4 = .ok (.iload_n 1, 1) := by decide +kernel
theorem dX11_isSeen_5 : decode cX11_isSeen 5 = .ok (.iaload, 1) := by decide +kernel
theorem dX11_isSeen_6 : decode cX11_isSeen 6 = .ok (.istore_n 2, 1) := by decide +kernel
theorem dX11_isSeen_7 : decode cX11_isSeen 7 = .ok (.aload_n 0, 1) := by decide +kernel
theorem dX11_isSeen_8 : decode cX11_isSeen 8 = .ok (.getfield 27, 3) := by decide +kernel
theorem dX11_isSeen_11 : decode cX11_isSeen 11 = .ok (.iload_n 1, 1) := by decide +kernel
theorem dX11_isSeen_12 : decode cX11_isSeen 12 = .ok (.iaload, 1) := by decide +kernel
theorem dX11_isSeen_13 : decode cX11_isSeen 13 = .ok (.istore_n 3, 1) := by decide +kernel
theorem dX11_isSeen_14 : decode cX11_isSeen 14 = .ok (.aload_n 0, 1) := by decide +kernel
theorem dX11_isSeen_15 : decode cX11_isSeen 15 = .ok (.getfield 221, 3) := by decide +kernel
theorem dX11_isSeen_18 : decode cX11_isSeen 18 = .ok (.istore 4, 2) := by decide +kernel
theorem dX11_isSeen_20 : decode cX11_isSeen 20 = .ok (.iconst 1, 1) := by decide +kernel
theorem dX11_isSeen_21 : decode cX11_isSeen 21 = .ok (.istore 5, 2) := by decide +kernel
theorem dX11_isSeen_23 : decode cX11_isSeen 23 = .ok (.iconst 0, 1) := by decide +kernel
theorem dX11_isSeen_24 : decode cX11_isSeen 24 = .ok (.istore 6, 2) := by decide +kernel
theorem dX11_isSeen_26 : decode cX11_isSeen 26 = .ok (.iload 6, 2) := by decide +kernel
theorem dX11_isSeen_28 : decode cX11_isSeen 28 = .ok (.bipush 13, 2) := by decide +kernel
theorem dX11_isSeen_30 : decode cX11_isSeen 30 = .ok (.if_icmp .ge 103, 3) := by decide +kernel
theorem dX11_isSeen_33 : decode cX11_isSeen 33 = .ok (.iload 5, 2) := by decide +kernel
theorem dX11_isSeen_35 : decode cX11_isSeen 35 = .ok (.ifCond .eq 98, 3) := by decide +kernel
theorem dX11_isSeen_38 : decode cX11_isSeen 38 = .ok (.iload 6, 2) := by decide +kernel
theorem dX11_isSeen_40 : decode cX11_isSeen 40 = .ok (.ifCond .le 8, 3) := by decide +kernel
theorem dX11_isSeen_43 : decode cX11_isSeen 43 = .ok (.aload_n 0, 1) := by decide +kernel
theorem dX11_isSeen_44 : decode cX11_isSeen 44 = .ok (.iload_n 1, 1) := by decide +kernel
theorem dX11_isSeen_45 : decode cX11_isSeen 45 = .ok (.invokevirtual 276, 3) := by decide +kernel
theorem dX11_isSeen_48 : decode cX11_isSeen 48 = .ok (.iconst 0, 1) := by decide +kernel
theorem dX11_isSeen_49 : decode cX11_isSeen 49 = .ok (.istore 7, 2) := by decide +kernel
theorem dX11_isSeen_51 : decode cX11_isSeen 51 = .ok (.iload 7, 2) := by decide +kernel
theorem dX11_isSeen_53 : decode cX11_isSeen 53 = .ok (.aload_n 0, 1) := by decide +kernel
theorem dX11_isSeen_54 : decode cX11_isSeen 54 = .ok (.getfield 284, 3) := by decide +kernel
theorem dX11_isSeen_57 : decode cX11_isSeen 57 = .ok (.if_icmp .ge 70, 3) := by decide +kernel
theorem dX11_isSeen_60 : decode cX11_isSeen 60 = .ok (.aload_n 0, 1) := by decide +kernel
theorem dX11_isSeen_61 : decode cX11_isSeen 61 = .ok (.getfield 61, 3) := by decide +kernel
theorem dX11_isSeen_64 : decode cX11_isSeen 64 = .ok (.iload 7, 2) := by decide +kernel
theorem dX11_isSeen_66 : decode cX11_isSeen 66 = .ok (.iaload, 1) := by decide +kernel
theorem dX11_isSeen_67 : decode cX11_isSeen 67 = .ok (.iload_n 1, 1) := by decide +kernel
theorem dX11_isSeen_68 : decode cX11_isSeen 68 = .ok (.if_icmp .ne 53, 3) := by decide +kernel
theorem dX11_isSeen_71 : decode cX11_isSeen 71 = .ok (.aload_n 0, 1) := by decide +kernel
theorem dX11_isSeen_72 : decode cX11_isSeen 72 = .ok (.getfield 64, 3) := by decide +kernel
theorem dX11_isSeen_75 : decode cX11_isSeen 75 = .ok (.iload 7, 2) := by decide +kernel
theorem dX11_isSeen_77 : decode cX11_isSeen 77 = .ok (.iaload, 1) := by decide +kernel
theorem dX11_isSeen_78 : decode cX11_isSeen 78 = .ok (.iload 6, 2) := by decide +kernel
theorem dX11_isSeen_80 : decode cX11_isSeen 80 = .ok (.if_icmp .ne 41, 3) := by decide +kernel
theorem dX11_isSeen_83 : decode cX11_isSeen 83 = .ok (.aload_n 0, 1) := by decide +kernel
theorem dX11_isSeen_84 : decode cX11_isSeen 84 = .ok (.getfield 24, 3) := by decide +kernel
theorem dX11_isSeen_87 : decode cX11_isSeen 87 = .ok (.iload_n 1, 1) := by decide +kernel
theorem dX11_isSeen_88 : decode cX11_isSeen 88 = .ok (.iaload, 1) := by decide +kernel
theorem dX11_isSeen_89 : decode cX11_isSeen 89 = .ok (.aload_n 0, 1) := by decide +kernel
theorem dX11_isSeen_90 : decode cX11_isSeen 90 = .ok (.getfield 67, 3) := by decide +kernel
theorem dX11_isSeen_93 : decode cX11_isSeen 93 = .ok (.iload 7, 2) := by decide +kernel
theorem dX11_isSeen_95 : decode cX11_isSeen 95 = .ok (.iaload, 1) := by decide +kernel
theorem dX11_isSeen_96 : decode cX11_isSeen 96 = .ok (.invokestatic 139, 3) := by decide +kernel
theorem dX11_isSeen_99 : decode cX11_isSeen 99 = .ok (.aload_n 0, 1) := by decide +kernel
theorem dX11_isSeen_100 : decode cX11_isSeen 100 = .ok (.getfield 70, 3) := by decide +kernel
theorem dX11_isSeen_103 : decode cX11_isSeen 103 = .ok (.iload 7, 2) := by decide +kernel
theorem dX11_isSeen_105 : decode cX11_isSeen 105 = .ok (.iaload, 1) := by decide +kernel
theorem dX11_isSeen_106 : decode cX11_isSeen 106 = .ok (.iconst 1, 1) := by decide +kernel
theorem dX11_isSeen_107 : decode cX11_isSeen 107 = .ok (.if_icmp .ne 7, 3) := by decide +kernel
theorem dX11_isSeen_110 : decode cX11_isSeen 110 = .ok (.iconst 1, 1) := by decide +kernel
theorem dX11_isSeen_111 : decode cX11_isSeen 111 = .ok (.goto 4, 3) := by decide +kernel
theorem dX11_isSeen_114 : decode cX11_isSeen 114 = .ok (.iconst 0, 1) := by decide +kernel
theorem dX11_isSeen_115 : decode cX11_isSeen 115 = .ok (.if_icmp .eq 6, 3) := by decide +kernel
theorem dX11_isSeen_118 : decode cX11_isSeen 118 = .ok (.iconst 0, 1) := by decide +kernel
theorem dX11_isSeen_119 : decode cX11_isSeen 119 = .ok (.istore 5, 2) := by decide +kernel
theorem dX11_isSeen_121 : decode cX11_isSeen 121 = .ok (.iinc 7 1, 3) := by decide +kernel
theorem dX11_isSeen_124 : decode cX11_isSeen 124 = .ok (.goto (-73), 3) := by decide +kernel
theorem dX11_isSeen_127 : decode cX11_isSeen 127 = .ok (.iinc 6 1, 3) := by decide +kernel
theorem dX11_isSeen_130 : decode cX11_isSeen 130 = .ok (.goto (-104), 3) := by decide +kernel
theorem dX11_isSeen_133 : decode cX11_isSeen 133 = .ok (.aload_n 0, 1) := by decide +kernel
theorem dX11_isSeen_134 : decode cX11_isSeen 134 = .ok (.iload_n 1, 1) := by decide +kernel
theorem dX11_isSeen_135 : decode cX11_isSeen 135 = .ok (.iload_n 2, 1) := by decide +kernel
theorem dX11_isSeen_136 : decode cX11_isSeen 136 = .ok (.iload_n 3, 1) := by decide +kernel
theorem dX11_isSeen_137 : decode cX11_isSeen 137 = .ok (.iload 4, 2) := by decide +kernel
theorem dX11_isSeen_139 : decode cX11_isSeen 139 = .ok (.invokevirtual 280, 3) := by decide +kernel
theorem dX11_isSeen_142 : decode cX11_isSeen 142 = .ok (.iload 5, 2) := by decide +kernel
theorem dX11_isSeen_144 : decode cX11_isSeen 144 = .ok (.ireturn, 1) := by decide +kernel
theorem dX11_meant_0 : decode cX11_meant 0 = .ok (.aload_n 0, 1) := by decide +kernel
theorem dX11_meant_1 : decode cX11_meant 1 = .ok (.iload_n 1, 1) := by decide +kernel
theorem dX11_meant_2 : decode cX11_meant 2 = .ok (.invokevirtual 118, 3) := by decide +kernel
theorem dX11_meant_5 : decode cX11_meant 5 = .ok (.ifCond .eq 12, 3) := by decide +kernel
theorem dX11_meant_8 : decode cX11_meant 8 = .ok (.iload_n 2, 1) := by decide +kernel
theorem dX11_meant_9 : decode cX11_meant 9 = .ok (.iconst 0, 1) := by decide +kernel
theorem dX11_meant_10 : decode cX11_meant 10 = .ok (.iconst 1, 1) := by decide +kernel
theorem dX11_meant_11 : decode cX11_meant 11 = .ok (.invokestatic 114, 3) := by decide +kernel
theorem dX11_meant_14 : decode cX11_meant 14 = .ok (.ifCond .ne 5, 3) := by decide +kernel
theorem dX11_meant_17 : decode cX11_meant 17 = .ok (.iconst (-1), 1) := by decide +kernel
theorem dX11_meant_18 : decode cX11_meant 18 = .ok (.ireturn, 1) := by decide +kernel
theorem dX11_meant_19 : decode cX11_meant 19 = .ok (.aload_n 0, 1) := by decide +kernel
theorem dX11_meant_20 : decode cX11_meant 20 = .ok (.getfield 24, 3) := by decide +kernel
theorem dX11_meant_23 : decode cX11_meant 23 = .ok (.iload_n 1, 1) := by decide +kernel
theorem dX11_meant_24 : decode cX11_meant 24 = .ok (.iaload, 1) := by decide +kernel
theorem dX11_meant_25 : decode cX11_meant 25 = .ok (.istore_n 3, 1) := by decide +kernel
theorem dX11_meant_26 : decode cX11_meant 26 = .ok (.iconst 0, 1) := by decide +kernel
theorem dX11_meant_27 : decode cX11_meant 27 = .ok (.istore 4, 2) := by decide +kernel
theorem dX11_meant_29 : decode cX11_meant 29 = .ok (.bipush (-5), 2) := by decide +kernel
theorem dX11_meant_31 : decode cX11_meant 31 = .ok (.istore 5, 2) := by decide +kernel
theorem dX11_meant_33 : decode cX11_meant 33 = .ok (.sipush 4095, 3) := by decide +kernel
theorem dX11_meant_36 : decode cX11_meant 36 = .ok (.istore 6, 2) := by decide +kernel
theorem dX11_meant_38 : decode cX11_meant 38 = .ok (.iload 6, 2) := by decide +kernel
theorem dX11_meant_40 : decode cX11_meant 40 = .ok (.ifCond .lt 35, 3) := by decide +kernel
theorem dX11_meant_43 : decode cX11_meant 43 = .ok (.aload_n 0, 1) := by decide +kernel
theorem dX11_meant_44 : decode cX11_meant 44 = .ok (.getfield 24, 3) := by decide +kernel
theorem dX11_meant_47 : decode cX11_meant 47 = .ok (.iload_n 1, 1) := by decide +kernel
theorem dX11_meant_48 : decode cX11_meant 48 = .ok (.iload 6, 2) := by decide +kernel
theorem dX11_meant_50 : decode cX11_meant 50 = .ok (.iastore, 1) := by decide +kernel
theorem dX11_meant_51 : decode cX11_meant 51 = .ok (.aload_n 0, 1) := by decide +kernel
theorem dX11_meant_52 : decode cX11_meant 52 = .ok (.iload_n 1, 1) := by decide +kernel
theorem dX11_meant_53 : decode cX11_meant 53 = .ok (.invokevirtual 287, 3) := by decide +kernel
theorem dX11_meant_56 : decode cX11_meant 56 = .ok (.ifCond .ne 6, 3) := by decide +kernel
theorem dX11_meant_59 : decode cX11_meant 59 = .ok (.goto 10, 3) := by decide +kernel
theorem dX11_meant_62 : decode cX11_meant 62 = .ok (.iinc 4 1, 3) := by decide +kernel
theorem dX11_meant_65 : decode cX11_meant 65 = .ok (.iload 6, 2) := by decide +kernel
theorem dX11_meant_67 : decode cX11_meant 67 = .ok (.istore 5, 2) := by decide +kernel
theorem dX11_meant_69 : decode cX11_meant 69 = .ok (.iinc 6 (-1), 3) := by decide +kernel
theorem dX11_meant_72 : decode cX11_meant 72 = .ok (.goto (-34), 3) := by decide +kernel
theorem dX11_meant_75 : decode cX11_meant 75 = .ok (.aload_n 0, 1) := by decide +kernel
theorem dX11_meant_76 : decode cX11_meant 76 = .ok (.getfield 24, 3) := by decide +kernel
theorem dX11_meant_79 : decode cX11_meant 79 = .ok (.iload_n 1, 1) := by decide +kernel
theorem dX11_meant_80 : decode cX11_meant 80 = .ok (.iload_n 3, 1) := by decide +kernel
theorem dX11_meant_81 : decode cX11_meant 81 = .ok (.iastore, 1) := by decide +kernel
theorem dX11_meant_82 : decode cX11_meant 82 = .ok (.iload_n 2, 1) := by decide +kernel
theorem dX11_meant_83 : decode cX11_meant 83 = .ok (.ifCond .ne 8, 3) := by decide +kernel
theorem dX11_meant_86 : decode cX11_meant 86 = .ok (.iload 4, 2) := by decide +kernel
theorem dX11_meant_88 : decode cX11_meant 88 = .ok (.goto 5, 3) := by decide +kernel
theorem dX11_meant_91 : decode cX11_meant 91 = .ok (.iload 5, 2) := by decide +kernel
theorem dX11_meant_93 : decode cX11_meant 93 = .ok (.ireturn, 1) := by decide +kernel
theorem dX11_can_0 : decode cX11_can 0 = .ok (.aload_n 0, 1) := by decide +kernel
theorem dX11_can_1 : decode cX11_can 1 = .ok (.iload_n 1, 1) := by decide +kernel
theorem dX11_can_2 : decode cX11_can 2 = .ok (.invokevirtual 118, 3) := by decide +kernel
theorem dX11_can_5 : decode cX11_can 5 = .ok (.ifCond .eq 12, 3) := by decide +kernel
theorem dX11_can_8 : decode cX11_can 8 = .ok (.iload_n 2, 1) := by decide +kernel
theorem dX11_can_9 : decode cX11_can 9 = .ok (.iconst 0, 1) := by decide +kernel
theorem dX11_can_10 : decode cX11_can 10 = .ok (.iconst 1, 1) := by decide +kernel
theorem dX11_can_11 : decode cX11_can 11 = .ok (.invokestatic 114, 3) := by decide +kernel
theorem dX11_can_14 : decode cX11_can 14 = .ok (.ifCond .ne 5, 3) := by decide +kernel
theorem dX11_can_17 : decode cX11_can 17 = .ok (.iconst (-1), 1) := by decide +kernel
theorem dX11_can_18 : decode cX11_can 18 = .ok (.ireturn, 1) := by decide +kernel
theorem dX11_can_19 : decode cX11_can 19 = .ok (.aload_n 0, 1) := by decide +kernel
theorem dX11_can_20 : decode cX11_can 20 = .ok (.getfield 21, 3) := by decide +kernel
theorem dX11_can_23 : decode cX11_can 23 = .ok (.iload_n 1, 1) := by decide +kernel
theorem dX11_can_24 : decode cX11_can 24 = .ok (.iaload, 1) := by decide +kernel
theorem dX11_can_25 : decode cX11_can 25 = .ok (.istore_n 3, 1) := by decide +kernel
theorem dX11_can_26 : decode cX11_can 26 = .ok (.iconst 0, 1) := by decide +kernel
theorem dX11_can_27 : decode cX11_can 27 = .ok (.istore 4, 2) := by decide +kernel
theorem dX11_can_29 : decode cX11_can 29 = .ok (.bipush (-5), 2) := by decide +kernel
theorem dX11_can_31 : decode cX11_can 31 = .ok (.istore 5, 2) := by decide +kernel
theorem dX11_can_33 : decode cX11_can 33 = .ok (.bipush 9, 2) := by decide +kernel
theorem dX11_can_35 : decode cX11_can 35 = .ok (.istore 6, 2) := by decide +kernel
theorem dX11_can_37 : decode cX11_can 37 = .ok (.iload 6, 2) := by decide +kernel
theorem dX11_can_39 : decode cX11_can 39 = .ok (.ifCond .lt 35, 3) := by decide +kernel
theorem dX11_can_42 : decode cX11_can 42 = .ok (.aload_n 0, 1) := by decide +kernel
theorem dX11_can_43 : decode cX11_can 43 = .ok (.getfield 21, 3) := by decide +kernel
theorem dX11_can_46 : decode cX11_can 46 = .ok (.iload_n 1, 1) := by decide +kernel
theorem dX11_can_47 : decode cX11_can 47 = .ok (.iload 6, 2) := by decide +kernel
theorem dX11_can_49 : decode cX11_can 49 = .ok (.iastore, 1) := by decide +kernel
theorem dX11_can_50 : decode cX11_can 50 = .ok (.aload_n 0, 1) := by decide +kernel
theorem dX11_can_51 : decode cX11_can 51 = .ok (.iload_n 1, 1) := by decide +kernel
theorem dX11_can_52 : decode cX11_can 52 = .ok (.invokevirtual 287, 3) := by decide +kernel
theorem dX11_can_55 : decode cX11_can 55 = .ok (.ifCond .ne 6, 3) := by decide +kernel
theorem dX11_can_58 : decode cX11_can 58 = .ok (.goto 10, 3) := by decide +kernel
theorem dX11_can_61 : decode cX11_can 61 = .ok (.iinc 4 1, 3) := by decide +kernel
theorem dX11_can_64 : decode cX11_can 64 = .ok (.iload 6, 2) := by decide +kernel
theorem dX11_can_66 : decode cX11_can 66 = .ok (.istore 5, 2) := by decide +kernel
theorem dX11_can_68 : decode cX11_can 68 = .ok (.iinc 6 (-1), 3) := by decide +kernel
theorem dX11_can_71 : decode cX11_can 71 = .ok (.goto (-34), 3) := by decide +kernel
theorem dX11_can_74 : decode cX11_can 74 = .ok (.aload_n 0, 1) := by decide +kernel
theorem dX11_can_75 : decode cX11_can 75 = .ok (.getfield 21, 3) := by decide +kernel
theorem dX11_can_78 : decode cX11_can 78 = .ok (.iload_n 1, 1) := by decide +kernel
theorem dX11_can_79 : decode cX11_can 79 = .ok (.iload_n 3, 1) := by decide +kernel
theorem dX11_can_80 : decode cX11_can 80 = .ok (.iastore, 1) := by decide +kernel
theorem dX11_can_81 : decode cX11_can 81 = .ok (.iload_n 2, 1) := by decide +kernel
theorem dX11_can_82 : decode cX11_can 82 = .ok (.ifCond .ne 8, 3) := by decide +kernel
theorem dX11_can_85 : decode cX11_can 85 = .ok (.iload 4, 2) := by decide +kernel
theorem dX11_can_87 : decode cX11_can 87 = .ok (.goto 5, 3) := by decide +kernel
theorem dX11_can_90 : decode cX11_can 90 = .ok (.iload 5, 2) := by decide +kernel
theorem dX11_can_92 : decode cX11_can 92 = .ok (.ireturn, 1) := by decide +kernel
theorem dX11_part_0 : decode cX11_part 0 = .ok (.lload_n 0, 1) := by decide +kernel
theorem dX11_part_1 : decode cX11_part 1 = .ok (.lstore 5, 2) := by decide +kernel
theorem dX11_part_3 : decode cX11_part 3 = .ok (.lload_n 2, 1) := by decide +kernel
theorem dX11_part_4 : decode cX11_part 4 = .ok (.lstore 7, 2) := by decide +kernel
theorem dX11_part_6 : decode cX11_part 6 = .ok (.lload 7, 2) := by decide +kernel
theorem dX11_part_8 : decode cX11_part 8 = .ok (.lconst 0, 1) := by decide +kernel
theorem dX11_part_9 : decode cX11_part 9 = .ok (.lcmp, 1) := by decide +kernel
theorem dX11_part_10 : decode cX11_part 10 = .ok (.ifCond .eq 21, 3) := by decide +kernel
theorem dX11_part_13 : decode cX11_part 13 = .ok (.lload 5, 2) := by decide +kernel
theorem dX11_part_15 : decode cX11_part 15 = .ok (.lload 7, 2) := by decide +kernel
theorem dX11_part_17 : decode cX11_part 17 = .ok (.lrem, 1) := by decide +kernel
theorem dX11_part_18 : decode cX11_part 18 = .ok (.lstore 9, 2) := by decide +kernel
theorem dX11_part_20 : decode cX11_part 20 = .ok (.lload 7, 2) := by decide +kernel
theorem dX11_part_22 : decode cX11_part 22 = .ok (.lstore 5, 2) := by decide +kernel
theorem dX11_part_24 : decode cX11_part 24 = .ok (.lload 9, 2) := by decide +kernel
theorem dX11_part_26 : decode cX11_part 26 = .ok (.lstore 7, 2) := by decide +kernel
theorem dX11_part_28 : decode cX11_part 28 = .ok (.goto (-22), 3) := by decide +kernel
theorem dX11_part_31 : decode cX11_part 31 = .ok (.iload 4, 2) := by decide +kernel
theorem dX11_part_33 : decode cX11_part 33 = .ok (.ifCond .ne 10, 3) := by decide +kernel
theorem dX11_part_36 : decode cX11_part 36 = .ok (.lload_n 0, 1) := by decide +kernel
theorem dX11_part_37 : decode cX11_part 37 = .ok (.lload 5, 2) := by decide +kernel
theorem dX11_part_39 : decode cX11_part 39 = .ok (.ldiv, 1) := by decide +kernel
theorem dX11_part_40 : decode cX11_part 40 = .ok (.goto 7, 3) := by decide +kernel
theorem dX11_part_43 : decode cX11_part 43 = .ok (.lload_n 2, 1) := by decide +kernel
theorem dX11_part_44 : decode cX11_part 44 = .ok (.lload 5, 2) := by decide +kernel
theorem dX11_part_46 : decode cX11_part 46 = .ok (.ldiv, 1) := by decide +kernel
theorem dX11_part_47 : decode cX11_part 47 = .ok (.lreturn, 1) := by decide +kernel
theorem dX11_odds_0 : decode cX11_odds 0 = .ok (.aload_n 0, 1) := by decide +kernel
theorem dX11_odds_1 : decode cX11_odds 1 = .ok (.iload_n 1, 1) := by decide +kernel
theorem dX11_odds_2 : decode cX11_odds 2 = .ok (.invokevirtual 118, 3) := by decide +kernel
theorem dX11_odds_5 : decode cX11_odds 5 = .ok (.ifCond .eq 12, 3) := by decide +kernel
theorem dX11_odds_8 : decode cX11_odds 8 = .ok (.iload_n 2, 1) := by decide +kernel
theorem dX11_odds_9 : decode cX11_odds 9 = .ok (.iconst 0, 1) := by decide +kernel
theorem dX11_odds_10 : decode cX11_odds 10 = .ok (.iconst 1, 1) := by decide +kernel
theorem dX11_odds_11 : decode cX11_odds 11 = .ok (.invokestatic 114, 3) := by decide +kernel
theorem dX11_odds_14 : decode cX11_odds 14 = .ok (.ifCond .ne 7, 3) := by decide +kernel
theorem dX11_odds_17 : decode cX11_odds 17 = .ok (.ldc2_w 290, 3) := by decide +kernel
theorem dX11_odds_20 : decode cX11_odds 20 = .ok (.lreturn, 1) := by decide +kernel
theorem dX11_odds_21 : decode cX11_odds 21 = .ok (.aload_n 0, 1) := by decide +kernel
theorem dX11_odds_22 : decode cX11_odds 22 = .ok (.getfield 24, 3) := by decide +kernel
theorem dX11_odds_25 : decode cX11_odds 25 = .ok (.iload_n 1, 1) := by decide +kernel
theorem dX11_odds_26 : decode cX11_odds 26 = .ok (.iaload, 1) := by decide +kernel
theorem dX11_odds_27 : decode cX11_odds 27 = .ok (.istore_n 3, 1) := by decide +kernel
theorem dX11_odds_28 : decode cX11_odds 28 = .ok (.aload_n 0, 1) := by decide +kernel
theorem dX11_odds_29 : decode cX11_odds 29 = .ok (.iload_n 1, 1) := by decide +kernel
theorem dX11_odds_30 : decode cX11_odds 30 = .ok (.invokevirtual 129, 3) := by decide +kernel
theorem dX11_odds_33 : decode cX11_odds 33 = .ok (.istore 4, 2) := by decide +kernel
theorem dX11_odds_35 : decode cX11_odds 35 = .ok (.iconst 0, 1) := by decide +kernel
theorem dX11_odds_36 : decode cX11_odds 36 = .ok (.istore 5, 2) := by decide +kernel
theorem dX11_odds_38 : decode cX11_odds 38 = .ok (.iconst 0, 1) := by decide +kernel
theorem dX11_odds_39 : decode cX11_odds 39 = .ok (.istore 6, 2) := by decide +kernel
theorem dX11_odds_41 : decode cX11_odds 41 = .ok (.iload 6, 2) := by decide +kernel
theorem dX11_odds_43 : decode cX11_odds 43 = .ok (.bipush 12, 2) := by decide +kernel
theorem dX11_odds_45 : decode cX11_odds 45 = .ok (.if_icmp .ge 34, 3) := by decide +kernel
theorem dX11_odds_48 : decode cX11_odds 48 = .ok (.aload_n 0, 1) := by decide +kernel
theorem dX11_odds_49 : decode cX11_odds 49 = .ok (.getfield 24, 3) := by decide +kernel
theorem dX11_odds_52 : decode cX11_odds 52 = .ok (.iload_n 1, 1) := by decide +kernel
theorem dX11_odds_53 : decode cX11_odds 53 = .ok (.iload_n 3, 1) := by decide +kernel
theorem dX11_odds_54 : decode cX11_odds 54 = .ok (.iconst 1, 1) := by decide +kernel
theorem dX11_odds_55 : decode cX11_odds 55 = .ok (.iload 6, 2) := by decide +kernel
theorem dX11_odds_57 : decode cX11_odds 57 = .ok (.ishl, 1) := by decide +kernel
theorem dX11_odds_58 : decode cX11_odds 58 = .ok (.ior, 1) := by decide +kernel
theorem dX11_odds_59 : decode cX11_odds 59 = .ok (.iastore, 1) := by decide +kernel
theorem dX11_odds_60 : decode cX11_odds 60 = .ok (.aload_n 0, 1) := by decide +kernel
theorem dX11_odds_61 : decode cX11_odds 61 = .ok (.iload_n 1, 1) := by decide +kernel
theorem dX11_odds_62 : decode cX11_odds 62 = .ok (.invokevirtual 129, 3) := by decide +kernel
theorem dX11_odds_65 : decode cX11_odds 65 = .ok (.iload 4, 2) := by decide +kernel
theorem dX11_odds_67 : decode cX11_odds 67 = .ok (.if_icmp .eq 6, 3) := by decide +kernel
theorem dX11_odds_70 : decode cX11_odds 70 = .ok (.iinc 5 1, 3) := by decide +kernel
theorem dX11_odds_73 : decode cX11_odds 73 = .ok (.iinc 6 1, 3) := by decide +kernel
theorem dX11_odds_76 : decode cX11_odds 76 = .ok (.goto (-35), 3) := by decide +kernel
theorem dX11_odds_79 : decode cX11_odds 79 = .ok (.aload_n 0, 1) := by decide +kernel
theorem dX11_odds_80 : decode cX11_odds 80 = .ok (.getfield 24, 3) := by decide +kernel
theorem dX11_odds_83 : decode cX11_odds 83 = .ok (.iload_n 1, 1) := by decide +kernel
theorem dX11_odds_84 : decode cX11_odds 84 = .ok (.iload_n 3, 1) := by decide +kernel
theorem dX11_odds_85 : decode cX11_odds 85 = .ok (.iastore, 1) := by decide +kernel
theorem dX11_odds_86 : decode cX11_odds 86 = .ok (.iload 5, 2) := by decide +kernel
theorem dX11_odds_88 : decode cX11_odds 88 = .ok (.i2l, 1) := by decide +kernel
theorem dX11_odds_89 : decode cX11_odds 89 = .ok (.ldc2_w 292, 3) := by decide +kernel
theorem dX11_odds_92 : decode cX11_odds 92 = .ok (.iload_n 2, 1) := by decide +kernel
theorem dX11_odds_93 : decode cX11_odds 93 = .ok (.invokestatic 294, 3) := by decide +kernel
theorem dX11_odds_96 : decode cX11_odds 96 = .ok (.lreturn, 1) := by decide +kernel
theorem dX11_mean_0 : decode cX11_mean 0 = .ok (.iload_n 1, 1) := by decide +kernel
theorem dX11_mean_1 : decode cX11_mean 1 = .ok (.iconst 0, 1) := by decide +kernel
theorem dX11_mean_2 : decode cX11_mean 2 = .ok (.bipush 60, 2) := by decide +kernel
theorem dX11_mean_4 : decode cX11_mean 4 = .ok (.invokestatic 114, 3) := by decide +kernel
theorem dX11_mean_7 : decode cX11_mean 7 = .ok (.ifCond .eq 19, 3) := by decide +kernel
theorem dX11_mean_10 : decode cX11_mean 10 = .ok (.iload_n 2, 1) := by decide +kernel
theorem dX11_mean_11 : decode cX11_mean 11 = .ok (.iconst 0, 1) := by decide +kernel
theorem dX11_mean_12 : decode cX11_mean 12 = .ok (.iconst 1, 1) := by decide +kernel
theorem dX11_mean_13 : decode cX11_mean 13 = .ok (.invokestatic 114, 3) := by decide +kernel
theorem dX11_mean_16 : decode cX11_mean 16 = .ok (.ifCond .eq 10, 3) := by decide +kernel
theorem dX11_mean_19 : decode cX11_mean 19 = .ok (.aload_n 0, 1) := by decide +kernel
theorem dX11_mean_20 : decode cX11_mean 20 = .ok (.getfield 111, 3) := by decide +kernel
theorem dX11_mean_23 : decode cX11_mean 23 = .ok (.ifCond .ne 7, 3) := by decide +kernel
theorem dX11_mean_26 : decode cX11_mean 26 = .ok (.ldc2_w 290, 3) := by decide +kernel
theorem dX11_mean_29 : decode cX11_mean 29 = .ok (.lreturn, 1) := by decide +kernel
theorem dX11_mean_30 : decode cX11_mean 30 = .ok (.aload_n 0, 1) := by decide +kernel
theorem dX11_mean_31 : decode cX11_mean 31 = .ok (.iload_n 1, 1) := by decide +kernel
theorem dX11_mean_32 : decode cX11_mean 32 = .ok (.iconst 0, 1) := by decide +kernel
theorem dX11_mean_33 : decode cX11_mean 33 = .ok (.invokevirtual 298, 3) := by decide +kernel
theorem dX11_mean_36 : decode cX11_mean 36 = .ok (.i2l, 1) := by decide +kernel
theorem dX11_mean_37 : decode cX11_mean 37 = .ok (.aload_n 0, 1) := by decide +kernel
theorem dX11_mean_38 : decode cX11_mean 38 = .ok (.getfield 111, 3) := by decide +kernel
theorem dX11_mean_41 : decode cX11_mean 41 = .ok (.i2l, 1) := by decide +kernel
theorem dX11_mean_42 : decode cX11_mean 42 = .ok (.iload_n 2, 1) := by decide +kernel
theorem dX11_mean_43 : decode cX11_mean 43 = .ok (.invokestatic 294, 3) := by decide +kernel
theorem dX11_mean_46 : decode cX11_mean 46 = .ok (.lreturn, 1) := by decide +kernel
theorem dX11_plan_0 : decode cX11_plan 0 = .ok (.iload_n 1, 1) := by decide +kernel
theorem dX11_plan_1 : decode cX11_plan 1 = .ok (.iconst (-1), 1) := by decide +kernel
theorem dX11_plan_2 : decode cX11_plan 2 = .ok (.if_icmp .ne 10, 3) := by decide +kernel
theorem dX11_plan_5 : decode cX11_plan 5 = .ok (.aload_n 0, 1) := by decide +kernel
theorem dX11_plan_6 : decode cX11_plan 6 = .ok (.iconst 0, 1) := by decide +kernel
theorem dX11_plan_7 : decode cX11_plan 7 = .ok (.putfield 301, 3) := by decide +kernel
theorem dX11_plan_10 : decode cX11_plan 10 = .ok (.iconst 0, 1) := by decide +kernel
theorem dX11_plan_11 : decode cX11_plan 11 = .ok (.ireturn, 1) := by decide +kernel
theorem dX11_plan_12 : decode cX11_plan 12 = .ok (.iload_n 1, 1) := by decide +kernel
theorem dX11_plan_13 : decode cX11_plan 13 = .ok (.iconst 0, 1) := by decide +kernel
theorem dX11_plan_14 : decode cX11_plan 14 = .ok (.iconst 3, 1) := by decide +kernel
theorem dX11_plan_15 : decode cX11_plan 15 = .ok (.invokestatic 114, 3) := by decide +kernel
theorem dX11_plan_18 : decode cX11_plan 18 = .ok (.ifCond .eq 15, 3) := by decide +kernel
theorem dX11_plan_21 : decode cX11_plan 21 = .ok (.iload_n 1, 1) := by decide +kernel
theorem dX11_plan_22 : decode cX11_plan 22 = .ok (.ifCond .le 13, 3) := by decide +kernel
theorem dX11_plan_25 : decode cX11_plan 25 = .ok (.aload_n 0, 1) := by decide +kernel
theorem dX11_plan_26 : decode cX11_plan 26 = .ok (.iload_n 2, 1) := by decide +kernel
theorem dX11_plan_27 : decode cX11_plan 27 = .ok (.invokevirtual 118, 3) := by decide +kernel
theorem dX11_plan_30 : decode cX11_plan 30 = .ok (.ifCond .ne 5, 3) := by decide +kernel
theorem dX11_plan_33 : decode cX11_plan 33 = .ok (.iconst (-1), 1) := by decide +kernel
theorem dX11_plan_34 : decode cX11_plan 34 = .ok (.ireturn, 1) := by decide +kernel
theorem dX11_plan_35 : decode cX11_plan 35 = .ok (.aload_n 0, 1) := by decide +kernel
theorem dX11_plan_36 : decode cX11_plan 36 = .ok (.getfield 301, 3) := by decide +kernel
theorem dX11_plan_39 : decode cX11_plan 39 = .ok (.bipush 10, 2) := by decide +kernel
theorem dX11_plan_41 : decode cX11_plan 41 = .ok (.if_icmp .ne 6, 3) := by decide +kernel
theorem dX11_plan_44 : decode cX11_plan 44 = .ok (.bipush (-4), 2) := by decide +kernel
theorem dX11_plan_46 : decode cX11_plan 46 = .ok (.ireturn, 1) := by decide +kernel
theorem dX11_plan_47 : decode cX11_plan 47 = .ok (.aload_n 0, 1) := by decide +kernel
theorem dX11_plan_48 : decode cX11_plan 48 = .ok (.getfield 73, 3) := by decide +kernel
theorem dX11_plan_51 : decode cX11_plan 51 = .ok (.aload_n 0, 1) := by decide +kernel
theorem dX11_plan_52 : decode cX11_plan 52 = .ok (.getfield 301, 3) := by decide +kernel
theorem dX11_plan_55 : decode cX11_plan 55 = .ok (.iload_n 1, 1) := by decide +kernel
theorem dX11_plan_56 : decode cX11_plan 56 = .ok (.iastore, 1) := by decide +kernel
theorem dX11_plan_57 : decode cX11_plan 57 = .ok (.aload_n 0, 1) := by decide +kernel
theorem dX11_plan_58 : decode cX11_plan 58 = .ok (.getfield 76, 3) := by decide +kernel
theorem dX11_plan_61 : decode cX11_plan 61 = .ok (.aload_n 0, 1) := by decide +kernel
theorem dX11_plan_62 : decode cX11_plan 62 = .ok (.dup, 1) := by decide +kernel
theorem dX11_plan_63 : decode cX11_plan 63 = .ok (.getfield 301, 3) := by decide +kernel
theorem dX11_plan_66 : decode cX11_plan 66 = .ok (.dup_x1, 1) := by decide +kernel
theorem dX11_plan_67 : decode cX11_plan 67 = .ok (.iconst 1, 1) := by decide +kernel
theorem dX11_plan_68 : decode cX11_plan 68 = .ok (.iadd, 1) := by decide +kernel
theorem dX11_plan_69 : decode cX11_plan 69 = .ok (.putfield 301, 3) := by decide +kernel
theorem dX11_plan_72 : decode cX11_plan 72 = .ok (.iload_n 1, 1) := by decide +kernel
theorem dX11_plan_73 : decode cX11_plan 73 = .ok (.ifCond .ne 7, 3) := by decide +kernel
theorem dX11_plan_76 : decode cX11_plan 76 = .ok (.iconst 0, 1) := by decide +kernel
theorem dX11_plan_77 : decode cX11_plan 77 = .ok (.goto 4, 3) := by decide +kernel
theorem dX11_plan_80 : decode cX11_plan 80 = .ok (.iload_n 2, 1) := by decide +kernel
theorem dX11_plan_81 : decode cX11_plan 81 = .ok (.iastore, 1) := by decide +kernel
theorem dX11_plan_82 : decode cX11_plan 82 = .ok (.aload_n 0, 1) := by decide +kernel
theorem dX11_plan_83 : decode cX11_plan 83 = .ok (.getfield 301, 3) := by decide +kernel
theorem dX11_plan_86 : decode cX11_plan 86 = .ok (.ireturn, 1) := by decide +kernel
theorem dX11_ends_0 : decode cX11_ends 0 = .ok (.iload_n 1, 1) := by decide +kernel
theorem dX11_ends_1 : decode cX11_ends 1 = .ok (.iconst 0, 1) := by decide +kernel
theorem dX11_ends_2 : decode cX11_ends 2 = .ok (.iconst 1, 1) := by decide +kernel
theorem dX11_ends_3 : decode cX11_ends 3 = .ok (.invokestatic 114, 3) := by decide +kernel
theorem dX11_ends_6 : decode cX11_ends 6 = .ok (.ifCond .ne 5, 3) := by decide +kernel
theorem dX11_ends_9 : decode cX11_ends 9 = .ok (.iconst (-1), 1) := by decide +kernel
theorem dX11_ends_10 : decode cX11_ends 10 = .ok (.ireturn, 1) := by decide +kernel
theorem dX11_ends_11 : decode cX11_ends 11 = .ok (.aload_n 0, 1) := by decide +kernel
theorem dX11_ends_12 : decode cX11_ends 12 = .ok (.aload_n 0, 1) := by decide +kernel
theorem dX11_ends_13 : decode cX11_ends 13 = .ok (.getfield 91, 3) := by decide +kernel
theorem dX11_ends_16 : decode cX11_ends 16 = .ok (.invokevirtual 269, 3) := by decide +kernel
theorem dX11_ends_19 : decode cX11_ends 19 = .ok (.iconst 0, 1) := by decide +kernel
theorem dX11_ends_20 : decode cX11_ends 20 = .ok (.istore_n 2, 1) := by decide +kernel
theorem dX11_ends_21 : decode cX11_ends 21 = .ok (.iload_n 2, 1) := by decide +kernel
theorem dX11_ends_22 : decode cX11_ends 22 = .ok (.aload_n 0, 1) := by decide +kernel
theorem dX11_ends_23 : decode cX11_ends 23 = .ok (.getfield 301, 3) := by decide +kernel
theorem dX11_ends_26 : decode cX11_ends 26 = .ok (.if_icmp .ge 81, 3) := by decide +kernel
theorem dX11_ends_29 : decode cX11_ends 29 = .ok (.aload_n 0, 1) := by decide +kernel
theorem dX11_ends_30 : decode cX11_ends 30 = .ok (.getfield 76, 3) := by decide +kernel
theorem dX11_ends_33 : decode cX11_ends 33 = .ok (.iload_n 2, 1) := by decide +kernel
theorem dX11_ends_34 : decode cX11_ends 34 = .ok (.iaload, 1) := by decide +kernel
theorem dX11_ends_35 : decode cX11_ends 35 = .ok (.istore_n 3, 1) := by decide +kernel
theorem dX11_ends_36 : decode cX11_ends 36 = .ok (.aload_n 0, 1) := by decide +kernel
theorem dX11_ends_37 : decode cX11_ends 37 = .ok (.getfield 73, 3) := by decide +kernel
theorem dX11_ends_40 : decode cX11_ends 40 = .ok (.iload_n 2, 1) := by decide +kernel
theorem dX11_ends_41 : decode cX11_ends 41 = .ok (.iaload, 1) := by decide +kernel
theorem dX11_ends_42 : decode cX11_ends 42 = .ok (.ifCond .ne 10, 3) := by decide +kernel
theorem dX11_ends_45 : decode cX11_ends 45 = .ok (.aload_n 0, 1) := by decide +kernel
theorem dX11_ends_46 : decode cX11_ends 46 = .ok (.invokevirtual 266, 3) := by decide +kernel
theorem dX11_ends_49 : decode cX11_ends 49 = .ok (.goto 52, 3) := by decide +kernel
theorem dX11_ends_52 : decode cX11_ends 52 = .ok (.aload_n 0, 1) := by decide +kernel
theorem dX11_ends_53 : decode cX11_ends 53 = .ok (.getfield 73, 3) := by decide +kernel
theorem dX11_ends_56 : decode cX11_ends 56 = .ok (.iload_n 2, 1) := by decide +kernel
theorem dX11_ends_57 : decode cX11_ends 57 = .ok (.iaload, 1) := by decide +kernel
theorem dX11_ends_58 : decode cX11_ends 58 = .ok (.iconst 3, 1) := by decide +kernel
theorem dX11_ends_59 : decode cX11_ends 59 = .ok (.if_icmp .ge 20, 3) := by decide +kernel
theorem dX11_ends_62 : decode cX11_ends 62 = .ok (.aload_n 0, 1) := by decide +kernel
theorem dX11_ends_63 : decode cX11_ends 63 = .ok (.getfield 30, 3) := by decide +kernel
theorem dX11_ends_66 : decode cX11_ends 66 = .ok (.iload_n 3, 1) := by decide +kernel
theorem dX11_ends_67 : decode cX11_ends 67 = .ok (.aload_n 0, 1) := by decide +kernel
theorem dX11_ends_68 : decode cX11_ends 68 = .ok (.getfield 73, 3) := by decide +kernel
theorem dX11_ends_71 : decode cX11_ends 71 = .ok (.iload_n 2, 1) := by decide +kernel
theorem dX11_ends_72 : decode cX11_ends 72 = .ok (.iaload, 1) := by decide +kernel
theorem dX11_ends_73 : decode cX11_ends 73 = .ok (.iconst 1, 1) := by decide +kernel
theorem dX11_ends_74 : decode cX11_ends 74 = .ok (.isub, 1) := by decide +kernel
theorem dX11_ends_75 : decode cX11_ends 75 = .ok (.iastore, 1) := by decide +kernel
theorem dX11_ends_76 : decode cX11_ends 76 = .ok (.goto 25, 3) := by decide +kernel
theorem dX11_ends_79 : decode cX11_ends 79 = .ok (.aload_n 0, 1) := by decide +kernel
theorem dX11_ends_80 : decode cX11_ends 80 = .ok (.getfield 24, 3) := by decide +kernel
theorem dX11_ends_83 : decode cX11_ends 83 = .ok (.iload_n 3, 1) := by decide +kernel
theorem dX11_ends_84 : decode cX11_ends 84 = .ok (.dup2, 1) := by decide +kernel
theorem dX11_ends_85 : decode cX11_ends 85 = .ok (.iaload, 1) := by decide +kernel
theorem dX11_ends_86 : decode cX11_ends 86 = .ok (.aload_n 0, 1) := by decide +kernel
theorem dX11_ends_87 : decode cX11_ends 87 = .ok (.getfield 27, 3) := by decide +kernel
theorem dX11_ends_90 : decode cX11_ends 90 = .ok (.iload_n 3, 1) := by decide +kernel
theorem dX11_ends_91 : decode cX11_ends 91 = .ok (.iaload, 1) := by decide +kernel
theorem dX11_ends_92 : decode cX11_ends 92 = .ok (.ior, 1) := by decide +kernel
theorem dX11_ends_93 : decode cX11_ends 93 = .ok (.iastore, 1) := by decide +kernel
theorem dX11_ends_94 : decode cX11_ends 94 = .ok (.aload_n 0, 1) := by decide +kernel
theorem dX11_ends_95 : decode cX11_ends 95 = .ok (.getfield 27, 3) := by decide +kernel
theorem dX11_ends_98 : decode cX11_ends 98 = .ok (.iload_n 3, 1) := by decide +kernel
theorem dX11_ends_99 : decode cX11_ends 99 = .ok (.iconst 0, 1) := by decide +kernel
theorem dX11_ends_100 : decode cX11_ends 100 = .ok (.iastore, 1) := by decide +kernel
theorem dX11_ends_101 : decode cX11_ends 101 = .ok (.iinc 2 1, 3) := by decide +kernel
theorem dX11_ends_104 : decode cX11_ends 104 = .ok (.goto (-83), 3) := by decide +kernel
theorem dX11_ends_107 : decode cX11_ends 107 = .ok (.iload_n 1, 1) := by decide +kernel
theorem dX11_ends_108 : decode cX11_ends 108 = .ok (.ifCond .ne 10, 3) := by decide +kernel
theorem dX11_ends_111 : decode cX11_ends 111 = .ok (.aload_n 0, 1) := by decide +kernel
theorem dX11_ends_112 : decode cX11_ends 112 = .ok (.invokevirtual 257, 3) := by decide +kernel
theorem dX11_ends_115 : decode cX11_ends 115 = .ok (.goto 7, 3) := by decide +kernel
theorem dX11_ends_118 : decode cX11_ends 118 = .ok (.aload_n 0, 1) := by decide +kernel
theorem dX11_ends_119 : decode cX11_ends 119 = .ok (.invokevirtual 304, 3) := by decide +kernel
theorem dX11_ends_122 : decode cX11_ends 122 = .ok (.istore_n 2, 1) := by decide +kernel
theorem dX11_ends_123 : decode cX11_ends 123 = .ok (.aload_n 0, 1) := by decide +kernel
theorem dX11_ends_124 : decode cX11_ends 124 = .ok (.aload_n 0, 1) := by decide +kernel
theorem dX11_ends_125 : decode cX11_ends 125 = .ok (.getfield 91, 3) := by decide +kernel
theorem dX11_ends_128 : decode cX11_ends 128 = .ok (.invokevirtual 273, 3) := by decide +kernel
theorem dX11_ends_131 : decode cX11_ends 131 = .ok (.iload_n 2, 1) := by decide +kernel
theorem dX11_ends_132 : decode cX11_ends 132 = .ok (.ireturn, 1) := by decide +kernel
theorem dX11_book_0 : decode cX11_book 0 = .ok (.iload_n 1, 1) := by decide +kernel
theorem dX11_book_1 : decode cX11_book 1 = .ok (.iconst (-1), 1) := by decide +kernel
theorem dX11_book_2 : decode cX11_book 2 = .ok (.if_icmp .ne 10, 3) := by decide +kernel
theorem dX11_book_5 : decode cX11_book 5 = .ok (.aload_n 0, 1) := by decide +kernel
theorem dX11_book_6 : decode cX11_book 6 = .ok (.iconst 0, 1) := by decide +kernel
theorem dX11_book_7 : decode cX11_book 7 = .ok (.putfield 307, 3) := by decide +kernel
theorem dX11_book_10 : decode cX11_book 10 = .ok (.iconst 0, 1) := by decide +kernel
theorem dX11_book_11 : decode cX11_book 11 = .ok (.ireturn, 1) := by decide +kernel
theorem dX11_book_12 : decode cX11_book 12 = .ok (.iload_n 1, 1) := by decide +kernel
theorem dX11_book_13 : decode cX11_book 13 = .ok (.invokestatic 122, 3) := by decide +kernel
theorem dX11_book_16 : decode cX11_book 16 = .ok (.ifCond .ne 5, 3) := by decide +kernel
theorem dX11_book_19 : decode cX11_book 19 = .ok (.iconst (-1), 1) := by decide +kernel
theorem dX11_book_20 : decode cX11_book 20 = .ok (.ireturn, 1) := by decide +kernel
theorem dX11_book_21 : decode cX11_book 21 = .ok (.iload_n 2, 1) := by decide +kernel
theorem dX11_book_22 : decode cX11_book 22 = .ok (.iconst 0, 1) := by decide +kernel
theorem dX11_book_23 : decode cX11_book 23 = .ok (.bipush 99, 2) := by decide +kernel
theorem dX11_book_25 : decode cX11_book 25 = .ok (.invokestatic 114, 3) := by decide +kernel
theorem dX11_book_28 : decode cX11_book 28 = .ok (.ifCond .ne 6, 3) := by decide +kernel
theorem dX11_book_31 : decode cX11_book 31 = .ok (.bipush (-2), 2) := by decide +kernel
theorem dX11_book_33 : decode cX11_book 33 = .ok (.ireturn, 1) := by decide +kernel
theorem dX11_book_34 : decode cX11_book 34 = .ok (.aload_n 0, 1) := by decide +kernel
theorem dX11_book_35 : decode cX11_book 35 = .ok (.getfield 307, 3) := by decide +kernel
theorem dX11_book_38 : decode cX11_book 38 = .ok (.bipush 8, 2) := by decide +kernel
theorem dX11_book_40 : decode cX11_book 40 = .ok (.if_icmp .ne 6, 3) := by decide +kernel
theorem dX11_book_43 : decode cX11_book 43 = .ok (.bipush (-4), 2) := by decide +kernel
theorem dX11_book_45 : decode cX11_book 45 = .ok (.ireturn, 1) := by decide +kernel
theorem dX11_book_46 : decode cX11_book 46 = .ok (.aload_n 0, 1) := by decide +kernel
theorem dX11_book_47 : decode cX11_book 47 = .ok (.getfield 79, 3) := by decide +kernel
theorem dX11_book_50 : decode cX11_book 50 = .ok (.aload_n 0, 1) := by decide +kernel
theorem dX11_book_51 : decode cX11_book 51 = .ok (.getfield 307, 3) := by decide +kernel
theorem dX11_book_54 : decode cX11_book 54 = .ok (.iload_n 1, 1) := by decide +kernel
theorem dX11_book_55 : decode cX11_book 55 = .ok (.iastore, 1) := by decide +kernel
theorem dX11_book_56 : decode cX11_book 56 = .ok (.aload_n 0, 1) := by decide +kernel
theorem dX11_book_57 : decode cX11_book 57 = .ok (.getfield 82, 3) := by decide +kernel
theorem dX11_book_60 : decode cX11_book 60 = .ok (.aload_n 0, 1) := by decide +kernel
theorem dX11_book_61 : decode cX11_book 61 = .ok (.dup, 1) := by decide +kernel
theorem dX11_book_62 : decode cX11_book 62 = .ok (.getfield 307, 3) := by decide +kernel
theorem dX11_book_65 : decode cX11_book 65 = .ok (.dup_x1, 1) := by decide +kernel
theorem dX11_book_66 : decode cX11_book 66 = .ok (.iconst 1, 1) := by decide +kernel
theorem dX11_book_67 : decode cX11_book 67 = .ok (.iadd, 1) := by decide +kernel
theorem dX11_book_68 : decode cX11_book 68 = .ok (.putfield 307, 3) := by decide +kernel
theorem dX11_book_71 : decode cX11_book 71 = .ok (.iload_n 2, 1) := by decide +kernel
theorem dX11_book_72 : decode cX11_book 72 = .ok (.iastore, 1) := by decide +kernel
theorem dX11_book_73 : decode cX11_book 73 = .ok (.aload_n 0, 1) := by decide +kernel
theorem dX11_book_74 : decode cX11_book 74 = .ok (.getfield 307, 3) := by decide +kernel
theorem dX11_book_77 : decode cX11_book 77 = .ok (.ireturn, 1) := by decide +kernel
theorem dX11_looked_0 : decode cX11_looked 0 = .ok (.iconst 0, 1) := by decide +kernel
theorem dX11_looked_1 : decode cX11_looked 1 = .ok (.istore_n 1, 1) := by decide +kernel
theorem dX11_looked_2 : decode cX11_looked 2 = .ok (.iload_n 1, 1) := by decide +kernel
theorem dX11_looked_3 : decode cX11_looked 3 = .ok (.aload_n 0, 1) := by decide +kernel
theorem dX11_looked_4 : decode cX11_looked 4 = .ok (.getfield 307, 3) := by decide +kernel
theorem dX11_looked_7 : decode cX11_looked 7 = .ok (.if_icmp .ge 31, 3) := by decide +kernel
theorem dX11_looked_10 : decode cX11_looked 10 = .ok (.aload_n 0, 1) := by decide +kernel
theorem dX11_looked_11 : decode cX11_looked 11 = .ok (.getfield 15, 3) := by decide +kernel
theorem dX11_looked_14 : decode cX11_looked 14 = .ok (.aload_n 0, 1) := by decide +kernel
theorem dX11_looked_15 : decode cX11_looked 15 = .ok (.getfield 79, 3) := by decide +kernel
theorem dX11_looked_18 : decode cX11_looked 18 = .ok (.iload_n 1, 1) := by decide +kernel
theorem dX11_looked_19 : decode cX11_looked 19 = .ok (.iaload, 1) := by decide +kernel
theorem dX11_looked_20 : decode cX11_looked 20 = .ok (.iaload, 1) := by decide +kernel
theorem dX11_looked_21 : decode cX11_looked 21 = .ok (.aload_n 0, 1) := by decide +kernel
theorem dX11_looked_22 : decode cX11_looked 22 = .ok (.getfield 82, 3) := by decide +kernel
theorem dX11_looked_25 : decode cX11_looked 25 = .ok (.iload_n 1, 1) := by decide +kernel
theorem dX11_looked_26 : decode cX11_looked 26 = .ok (.iaload, 1) := by decide +kernel
theorem dX11_looked_27 : decode cX11_looked 27 = .ok (.if_icmp .eq 5, 3) := by decide +kernel
theorem dX11_looked_30 : decode cX11_looked 30 = .ok (.iload_n 1, 1) := by decide +kernel
theorem dX11_looked_31 : decode cX11_looked 31 = .ok (.ireturn, 1) := by decide +kernel
theorem dX11_looked_32 : decode cX11_looked 32 = .ok (.iinc 1 1, 3) := by decide +kernel
theorem dX11_looked_35 : decode cX11_looked 35 = .ok (.goto (-33), 3) := by decide +kernel
theorem dX11_looked_38 : decode cX11_looked 38 = .ok (.bipush (-5), 2) := by decide +kernel
theorem dX11_looked_40 : decode cX11_looked 40 = .ok (.ireturn, 1) := by decide +kernel
theorem dX11_judge_0 : decode cX11_judge 0 = .ok (.iload_n 1, 1) := by decide +kernel
theorem dX11_judge_1 : decode cX11_judge 1 = .ok (.iconst 0, 1) := by decide +kernel
theorem dX11_judge_2 : decode cX11_judge 2 = .ok (.iconst 5, 1) := by decide +kernel
theorem dX11_judge_3 : decode cX11_judge 3 = .ok (.invokestatic 114, 3) := by decide +kernel
theorem dX11_judge_6 : decode cX11_judge 6 = .ok (.ifCond .ne 5, 3) := by decide +kernel
theorem dX11_judge_9 : decode cX11_judge 9 = .ok (.iconst (-1), 1) := by decide +kernel
theorem dX11_judge_10 : decode cX11_judge 10 = .ok (.ireturn, 1) := by decide +kernel
theorem dX11_judge_11 : decode cX11_judge 11 = .ok (.aload_n 0, 1) := by decide +kernel
theorem dX11_judge_12 : decode cX11_judge 12 = .ok (.getfield 97, 3) := by decide +kernel
theorem dX11_judge_15 : decode cX11_judge 15 = .ok (.iload_n 1, 1) := by decide +kernel
theorem dX11_judge_16 : decode cX11_judge 16 = .ok (.iaload, 1) := by decide +kernel
theorem dX11_judge_17 : decode cX11_judge 17 = .ok (.iconst (-1), 1) := by decide +kernel
theorem dX11_judge_18 : decode cX11_judge 18 = .ok (.if_icmp .eq 15, 3) := by decide +kernel
theorem dX11_judge_21 : decode cX11_judge 21 = .ok (.aload_n 0, 1) := by decide +kernel
theorem dX11_judge_22 : decode cX11_judge 22 = .ok (.getfield 97, 3) := by decide +kernel
theorem dX11_judge_25 : decode cX11_judge 25 = .ok (.iload_n 1, 1) := by decide +kernel
theorem dX11_judge_26 : decode cX11_judge 26 = .ok (.iaload, 1) := by decide +kernel
theorem dX11_judge_27 : decode cX11_judge 27 = .ok (.ifCond .eq 6, 3) := by decide +kernel
theorem dX11_judge_30 : decode cX11_judge 30 = .ok (.bipush (-12), 2) := by decide +kernel
theorem dX11_judge_32 : decode cX11_judge 32 = .ok (.ireturn, 1) := by decide +kernel
theorem dX11_judge_33 : decode cX11_judge 33 = .ok (.iconst 0, 1) := by decide +kernel
theorem dX11_judge_34 : decode cX11_judge 34 = .ok (.istore_n 3, 1) := by decide +kernel
theorem dX11_judge_35 : decode cX11_judge 35 = .ok (.iload_n 3, 1) := by decide +kernel
theorem dX11_judge_36 : decode cX11_judge 36 = .ok (.bipush 12, 2) := by decide +kernel
theorem dX11_judge_38 : decode cX11_judge 38 = .ok (.if_icmp .ge 70, 3) := by decide +kernel
theorem dX11_judge_41 : decode cX11_judge 41 = .ok (.aload_n 0, 1) := by decide +kernel
theorem dX11_judge_42 : decode cX11_judge 42 = .ok (.getfield 97, 3) := by decide +kernel
theorem dX11_judge_45 : decode cX11_judge 45 = .ok (.iload_n 1, 1) := by decide +kernel
theorem dX11_judge_46 : decode cX11_judge 46 = .ok (.iaload, 1) := by decide +kernel
theorem dX11_judge_47 : decode cX11_judge 47 = .ok (.iconst (-1), 1) := by decide +kernel
theorem dX11_judge_48 : decode cX11_judge 48 = .ok (.if_icmp .eq 23, 3) := by decide +kernel
theorem dX11_judge_51 : decode cX11_judge 51 = .ok (.iload_n 2, 1) := by decide +kernel
theorem dX11_judge_52 : decode cX11_judge 52 = .ok (.ifCond .lt 19, 3) := by decide +kernel
theorem dX11_judge_55 : decode cX11_judge 55 = .ok (.iload_n 2, 1) := by decide +kernel
theorem dX11_judge_56 : decode cX11_judge 56 = .ok (.i2l, 1) := by decide +kernel
theorem dX11_judge_57 : decode cX11_judge 57 = .ok (.iload_n 3, 1) := by decide +kernel
theorem dX11_judge_58 : decode cX11_judge 58 = .ok (.i2l, 1) := by decide +kernel
theorem dX11_judge_59 : decode cX11_judge 59 = .ok (.ladd, 1) := by decide +kernel
theorem dX11_judge_60 : decode cX11_judge 60 = .ok (.aload_n 0, 1) := by decide +kernel
theorem dX11_judge_61 : decode cX11_judge 61 = .ok (.getfield 100, 3) := by decide +kernel
theorem dX11_judge_64 : decode cX11_judge 64 = .ok (.iload_n 1, 1) := by decide +kernel
theorem dX11_judge_65 : decode cX11_judge 65 = .ok (.iaload, 1) := by decide +kernel
theorem dX11_judge_66 : decode cX11_judge 66 = .ok (.i2l, 1) := by decide +kernel
theorem dX11_judge_67 : decode cX11_judge 67 = .ok (.lcmp, 1) := by decide +kernel
theorem dX11_judge_68 : decode cX11_judge 68 = .ok (.ifCond .lt 8, 3) := by decide +kernel
theorem dX11_judge_71 : decode cX11_judge 71 = .ok (.bipush 100, 2) := by decide +kernel
theorem dX11_judge_73 : decode cX11_judge 73 = .ok (.iload_n 3, 1) := by decide +kernel
theorem dX11_judge_74 : decode cX11_judge 74 = .ok (.iadd, 1) := by decide +kernel
theorem dX11_judge_75 : decode cX11_judge 75 = .ok (.ireturn, 1) := by decide +kernel
theorem dX11_judge_76 : decode cX11_judge 76 = .ok (.aload_n 0, 1) := by decide +kernel
theorem dX11_judge_77 : decode cX11_judge 77 = .ok (.getfield 103, 3) := by decide +kernel
theorem dX11_judge_80 : decode cX11_judge 80 = .ok (.bipush 60, 2) := by decide +kernel
theorem dX11_judge_82 : decode cX11_judge 82 = .ok (.iload_n 1, 1) := by decide +kernel
theorem dX11_judge_83 : decode cX11_judge 83 = .ok (.imul, 1) := by decide +kernel
theorem dX11_judge_84 : decode cX11_judge 84 = .ok (.iload_n 2, 1) := by decide +kernel
theorem dX11_judge_85 : decode cX11_judge 85 = .ok (.iadd, 1) := by decide +kernel
theorem dX11_judge_86 : decode cX11_judge 86 = .ok (.iload_n 3, 1) := by decide +kernel
theorem dX11_judge_87 : decode cX11_judge 87 = .ok (.iadd, 1) := by decide +kernel
theorem dX11_judge_88 : decode cX11_judge 88 = .ok (.laload, 1) := by decide +kernel
theorem dX11_judge_89 : decode cX11_judge 89 = .ok (.aload_n 0, 1) := by decide +kernel
theorem dX11_judge_90 : decode cX11_judge 90 = .ok (.getfield 15, 3) := by decide +kernel
theorem dX11_judge_93 : decode cX11_judge 93 = .ok (.iload_n 3, 1) := by decide +kernel
theorem dX11_judge_94 : decode cX11_judge 94 = .ok (.iaload, 1) := by decide +kernel
theorem dX11_judge_95 : decode cX11_judge 95 = .ok (.i2l, 1) := by decide +kernel
theorem dX11_judge_96 : decode cX11_judge 96 = .ok (.lcmp, 1) := by decide +kernel
theorem dX11_judge_97 : decode cX11_judge 97 = .ok (.ifCond .eq 5, 3) := by decide +kernel
theorem dX11_judge_100 : decode cX11_judge 100 = .ok (.iload_n 3, 1) := by decide +kernel
theorem dX11_judge_101 : decode cX11_judge 101 = .ok (.ireturn, 1) := by decide +kernel
theorem dX11_judge_102 : decode cX11_judge 102 = .ok (.iinc 3 1, 3) := by decide +kernel
theorem dX11_judge_105 : decode cX11_judge 105 = .ok (.goto (-70), 3) := by decide +kernel
theorem dX11_judge_108 : decode cX11_judge 108 = .ok (.bipush (-5), 2) := by decide +kernel
theorem dX11_judge_110 : decode cX11_judge 110 = .ok (.ireturn, 1) := by decide +kernel
theorem dX11_keep_0 : decode cX11_keep 0 = .ok (.iconst 0, 1) := by decide +kernel
theorem dX11_keep_1 : decode cX11_keep 1 = .ok (.istore_n 2, 1) := by decide +kernel
theorem dX11_keep_2 : decode cX11_keep 2 = .ok (.iload_n 2, 1) := by decide +kernel
theorem dX11_keep_3 : decode cX11_keep 3 = .ok (.bipush 12, 2) := by decide +kernel
theorem dX11_keep_5 : decode cX11_keep 5 = .ok (.if_icmp .ge 30, 3) := by decide +kernel
theorem dX11_keep_8 : decode cX11_keep 8 = .ok (.aload_n 1, 1) := by decide +kernel
theorem dX11_keep_9 : decode cX11_keep 9 = .ok (.iload_n 2, 1) := by decide +kernel
theorem dX11_keep_10 : decode cX11_keep 10 = .ok (.aload_n 0, 1) := by decide +kernel
theorem dX11_keep_11 : decode cX11_keep 11 = .ok (.getfield 9, 3) := by decide +kernel
theorem dX11_keep_14 : decode cX11_keep 14 = .ok (.iload_n 2, 1) := by decide +kernel
theorem dX11_keep_15 : decode cX11_keep 15 = .ok (.iaload, 1) := by decide +kernel
theorem dX11_keep_16 : decode cX11_keep 16 = .ok (.iastore, 1) := by decide +kernel
theorem dX11_keep_17 : decode cX11_keep 17 = .ok (.aload_n 1, 1) := by decide +kernel
theorem dX11_keep_18 : decode cX11_keep 18 = .ok (.bipush 12, 2) := by decide +kernel
theorem dX11_keep_20 : decode cX11_keep 20 = .ok (.iload_n 2, 1) := by decide +kernel
theorem dX11_keep_21 : decode cX11_keep 21 = .ok (.iadd, 1) := by decide +kernel
theorem dX11_keep_22 : decode cX11_keep 22 = .ok (.aload_n 0, 1) := by decide +kernel
theorem dX11_keep_23 : decode cX11_keep 23 = .ok (.getfield 15, 3) := by decide +kernel
theorem dX11_keep_26 : decode cX11_keep 26 = .ok (.iload_n 2, 1) := by decide +kernel
theorem dX11_keep_27 : decode cX11_keep 27 = .ok (.iaload, 1) := by decide +kernel
theorem dX11_keep_28 : decode cX11_keep 28 = .ok (.iastore, 1) := by decide +kernel
theorem dX11_keep_29 : decode cX11_keep 29 = .ok (.iinc 2 1, 3) := by decide +kernel
theorem dX11_keep_32 : decode cX11_keep 32 = .ok (.goto (-30), 3) := by decide +kernel
theorem dX11_keep_35 : decode cX11_keep 35 = .ok (.iconst 0, 1) := by decide +kernel
theorem dX11_keep_36 : decode cX11_keep 36 = .ok (.istore_n 2, 1) := by decide +kernel
theorem dX11_keep_37 : decode cX11_keep 37 = .ok (.iload_n 2, 1) := by decide +kernel
theorem dX11_keep_38 : decode cX11_keep 38 = .ok (.bipush 6, 2) := by decide +kernel
theorem dX11_keep_40 : decode cX11_keep 40 = .ok (.if_icmp .ge 69, 3) := by decide +kernel
theorem dX11_keep_43 : decode cX11_keep 43 = .ok (.aload_n 1, 1) := by decide +kernel
theorem dX11_keep_44 : decode cX11_keep 44 = .ok (.bipush 24, 2) := by decide +kernel
theorem dX11_keep_46 : decode cX11_keep 46 = .ok (.iload_n 2, 1) := by decide +kernel
theorem dX11_keep_47 : decode cX11_keep 47 = .ok (.iadd, 1) := by decide +kernel
theorem dX11_keep_48 : decode cX11_keep 48 = .ok (.aload_n 0, 1) := by decide +kernel
theorem dX11_keep_49 : decode cX11_keep 49 = .ok (.getfield 18, 3) := by decide +kernel
theorem dX11_keep_52 : decode cX11_keep 52 = .ok (.iload_n 2, 1) := by decide +kernel
theorem dX11_keep_53 : decode cX11_keep 53 = .ok (.iaload, 1) := by decide +kernel
theorem dX11_keep_54 : decode cX11_keep 54 = .ok (.iastore, 1) := by decide +kernel
theorem dX11_keep_55 : decode cX11_keep 55 = .ok (.aload_n 1, 1) := by decide +kernel
theorem dX11_keep_56 : decode cX11_keep 56 = .ok (.bipush 30, 2) := by decide +kernel
theorem dX11_keep_58 : decode cX11_keep 58 = .ok (.iload_n 2, 1) := by decide +kernel
theorem dX11_keep_59 : decode cX11_keep 59 = .ok (.iadd, 1) := by decide +kernel
theorem dX11_keep_60 : decode cX11_keep 60 = .ok (.aload_n 0, 1) := by decide +kernel
theorem dX11_keep_61 : decode cX11_keep 61 = .ok (.getfield 21, 3) := by decide +kernel
theorem dX11_keep_64 : decode cX11_keep 64 = .ok (.iload_n 2, 1) := by decide +kernel
theorem dX11_keep_65 : decode cX11_keep 65 = .ok (.iaload, 1) := by decide +kernel
theorem dX11_keep_66 : decode cX11_keep 66 = .ok (.iastore, 1) := by decide +kernel
theorem dX11_keep_67 : decode cX11_keep 67 = .ok (.aload_n 1, 1) := by decide +kernel
theorem dX11_keep_68 : decode cX11_keep 68 = .ok (.bipush 36, 2) := by decide +kernel
theorem dX11_keep_70 : decode cX11_keep 70 = .ok (.iload_n 2, 1) := by decide +kernel
theorem dX11_keep_71 : decode cX11_keep 71 = .ok (.iadd, 1) := by decide +kernel
theorem dX11_keep_72 : decode cX11_keep 72 = .ok (.aload_n 0, 1) := by decide +kernel
theorem dX11_keep_73 : decode cX11_keep 73 = .ok (.getfield 24, 3) := by decide +kernel
theorem dX11_keep_76 : decode cX11_keep 76 = .ok (.iload_n 2, 1) := by decide +kernel
theorem dX11_keep_77 : decode cX11_keep 77 = .ok (.iaload, 1) := by decide +kernel
theorem dX11_keep_78 : decode cX11_keep 78 = .ok (.iastore, 1) := by decide +kernel
theorem dX11_keep_79 : decode cX11_keep 79 = .ok (.aload_n 1, 1) := by decide +kernel
theorem dX11_keep_80 : decode cX11_keep 80 = .ok (.bipush 42, 2) := by decide +kernel
theorem dX11_keep_82 : decode cX11_keep 82 = .ok (.iload_n 2, 1) := by decide +kernel
theorem dX11_keep_83 : decode cX11_keep 83 = .ok (.iadd, 1) := by decide +kernel
theorem dX11_keep_84 : decode cX11_keep 84 = .ok (.aload_n 0, 1) := by decide +kernel
theorem dX11_keep_85 : decode cX11_keep 85 = .ok (.getfield 27, 3) := by decide +kernel
theorem dX11_keep_88 : decode cX11_keep 88 = .ok (.iload_n 2, 1) := by decide +kernel
theorem dX11_keep_89 : decode cX11_keep 89 = .ok (.iaload, 1) := by decide +kernel
theorem dX11_keep_90 : decode cX11_keep 90 = .ok (.iastore, 1) := by decide +kernel
theorem dX11_keep_91 : decode cX11_keep 91 = .ok (.aload_n 1, 1) := by decide +kernel
theorem dX11_keep_92 : decode cX11_keep 92 = .ok (.bipush 48, 2) := by decide +kernel
theorem dX11_keep_94 : decode cX11_keep 94 = .ok (.iload_n 2, 1) := by decide +kernel
theorem dX11_keep_95 : decode cX11_keep 95 = .ok (.iadd, 1) := by decide +kernel
theorem dX11_keep_96 : decode cX11_keep 96 = .ok (.aload_n 0, 1) := by decide +kernel
theorem dX11_keep_97 : decode cX11_keep 97 = .ok (.getfield 30, 3) := by decide +kernel
theorem dX11_keep_100 : decode cX11_keep 100 = .ok (.iload_n 2, 1) := by decide +kernel
theorem dX11_keep_101 : decode cX11_keep 101 = .ok (.iaload, 1) := by decide +kernel
theorem dX11_keep_102 : decode cX11_keep 102 = .ok (.iastore, 1) := by decide +kernel
theorem dX11_keep_103 : decode cX11_keep 103 = .ok (.iinc 2 1, 3) := by decide +kernel
theorem dX11_keep_106 : decode cX11_keep 106 = .ok (.goto (-69), 3) := by decide +kernel
theorem dX11_keep_109 : decode cX11_keep 109 = .ok (.iconst 0, 1) := by decide +kernel
theorem dX11_keep_110 : decode cX11_keep 110 = .ok (.istore_n 2, 1) := by decide +kernel
theorem dX11_keep_111 : decode cX11_keep 111 = .ok (.iload_n 2, 1) := by decide +kernel
theorem dX11_keep_112 : decode cX11_keep 112 = .ok (.bipush 24, 2) := by decide +kernel
theorem dX11_keep_114 : decode cX11_keep 114 = .ok (.if_icmp .ge 21, 3) := by decide +kernel
theorem dX11_keep_117 : decode cX11_keep 117 = .ok (.aload_n 1, 1) := by decide +kernel
theorem dX11_keep_118 : decode cX11_keep 118 = .ok (.bipush 54, 2) := by decide +kernel
theorem dX11_keep_120 : decode cX11_keep 120 = .ok (.iload_n 2, 1) := by decide +kernel
theorem dX11_keep_121 : decode cX11_keep 121 = .ok (.iadd, 1) := by decide +kernel
theorem dX11_keep_122 : decode cX11_keep 122 = .ok (.aload_n 0, 1) := by decide +kernel
theorem dX11_keep_123 : decode cX11_keep 123 = .ok (.getfield 33, 3) := by decide +kernel
theorem dX11_keep_126 : decode cX11_keep 126 = .ok (.iload_n 2, 1) := by decide +kernel
theorem dX11_keep_127 : decode cX11_keep 127 = .ok (.iaload, 1) := by decide +kernel
theorem dX11_keep_128 : decode cX11_keep 128 = .ok (.iastore, 1) := by decide +kernel
theorem dX11_keep_129 : decode cX11_keep 129 = .ok (.iinc 2 1, 3) := by decide +kernel
theorem dX11_keep_132 : decode cX11_keep 132 = .ok (.goto (-21), 3) := by decide +kernel
theorem dX11_keep_135 : decode cX11_keep 135 = .ok (.iconst 0, 1) := by decide +kernel
theorem dX11_keep_136 : decode cX11_keep 136 = .ok (.istore_n 2, 1) := by decide +kernel
theorem dX11_keep_137 : decode cX11_keep 137 = .ok (.iload_n 2, 1) := by decide +kernel
theorem dX11_keep_138 : decode cX11_keep 138 = .ok (.iconst 5, 1) := by decide +kernel
theorem dX11_keep_139 : decode cX11_keep 139 = .ok (.if_icmp .ge 57, 3) := by decide +kernel
theorem dX11_keep_142 : decode cX11_keep 142 = .ok (.aload_n 1, 1) := by decide +kernel
theorem dX11_keep_143 : decode cX11_keep 143 = .ok (.bipush 78, 2) := by decide +kernel
theorem dX11_keep_145 : decode cX11_keep 145 = .ok (.iload_n 2, 1) := by decide +kernel
theorem dX11_keep_146 : decode cX11_keep 146 = .ok (.iadd, 1) := by decide +kernel
theorem dX11_keep_147 : decode cX11_keep 147 = .ok (.aload_n 0, 1) := by decide +kernel
theorem dX11_keep_148 : decode cX11_keep 148 = .ok (.getfield 61, 3) := by decide +kernel
theorem dX11_keep_151 : decode cX11_keep 151 = .ok (.iload_n 2, 1) := by decide +kernel
theorem dX11_keep_152 : decode cX11_keep 152 = .ok (.iaload, 1) := by decide +kernel
theorem dX11_keep_153 : decode cX11_keep 153 = .ok (.iastore, 1) := by decide +kernel
theorem dX11_keep_154 : decode cX11_keep 154 = .ok (.aload_n 1, 1) := by decide +kernel
theorem dX11_keep_155 : decode cX11_keep 155 = .ok (.bipush 83, 2) := by decide +kernel
theorem dX11_keep_157 : decode cX11_keep 157 = .ok (.iload_n 2, 1) := by decide +kernel
theorem dX11_keep_158 : decode cX11_keep 158 = .ok (.iadd, 1) := by decide +kernel
theorem dX11_keep_159 : decode cX11_keep 159 = .ok (.aload_n 0, 1) := by decide +kernel
theorem dX11_keep_160 : decode cX11_keep 160 = .ok (.getfield 64, 3) := by decide +kernel
theorem dX11_keep_163 : decode cX11_keep 163 = .ok (.iload_n 2, 1) := by decide +kernel
theorem dX11_keep_164 : decode cX11_keep 164 = .ok (.iaload, 1) := by decide +kernel
theorem dX11_keep_165 : decode cX11_keep 165 = .ok (.iastore, 1) := by decide +kernel
theorem dX11_keep_166 : decode cX11_keep 166 = .ok (.aload_n 1, 1) := by decide +kernel
theorem dX11_keep_167 : decode cX11_keep 167 = .ok (.bipush 88, 2) := by decide +kernel
theorem dX11_keep_169 : decode cX11_keep 169 = .ok (.iload_n 2, 1) := by decide +kernel
theorem dX11_keep_170 : decode cX11_keep 170 = .ok (.iadd, 1) := by decide +kernel
theorem dX11_keep_171 : decode cX11_keep 171 = .ok (.aload_n 0, 1) := by decide +kernel
theorem dX11_keep_172 : decode cX11_keep 172 = .ok (.getfield 67, 3) := by decide +kernel
theorem dX11_keep_175 : decode cX11_keep 175 = .ok (.iload_n 2, 1) := by decide +kernel
theorem dX11_keep_176 : decode cX11_keep 176 = .ok (.iaload, 1) := by decide +kernel
theorem dX11_keep_177 : decode cX11_keep 177 = .ok (.iastore, 1) := by decide +kernel
theorem dX11_keep_178 : decode cX11_keep 178 = .ok (.aload_n 1, 1) := by decide +kernel
theorem dX11_keep_179 : decode cX11_keep 179 = .ok (.bipush 93, 2) := by decide +kernel
theorem dX11_keep_181 : decode cX11_keep 181 = .ok (.iload_n 2, 1) := by decide +kernel
theorem dX11_keep_182 : decode cX11_keep 182 = .ok (.iadd, 1) := by decide +kernel
theorem dX11_keep_183 : decode cX11_keep 183 = .ok (.aload_n 0, 1) := by decide +kernel
theorem dX11_keep_184 : decode cX11_keep 184 = .ok (.getfield 70, 3) := by decide +kernel
theorem dX11_keep_187 : decode cX11_keep 187 = .ok (.iload_n 2, 1) := by decide +kernel
theorem dX11_keep_188 : decode cX11_keep 188 = .ok (.iaload, 1) := by decide +kernel
theorem dX11_keep_189 : decode cX11_keep 189 = .ok (.iastore, 1) := by decide +kernel
theorem dX11_keep_190 : decode cX11_keep 190 = .ok (.iinc 2 1, 3) := by decide +kernel
theorem dX11_keep_193 : decode cX11_keep 193 = .ok (.goto (-56), 3) := by decide +kernel
theorem dX11_keep_196 : decode cX11_keep 196 = .ok (.iconst 0, 1) := by decide +kernel
theorem dX11_keep_197 : decode cX11_keep 197 = .ok (.istore_n 2, 1) := by decide +kernel
theorem dX11_keep_198 : decode cX11_keep 198 = .ok (.iload_n 2, 1) := by decide +kernel
theorem dX11_keep_199 : decode cX11_keep 199 = .ok (.bipush 10, 2) := by decide +kernel
theorem dX11_keep_201 : decode cX11_keep 201 = .ok (.if_icmp .ge 33, 3) := by decide +kernel
theorem dX11_keep_204 : decode cX11_keep 204 = .ok (.aload_n 1, 1) := by decide +kernel
theorem dX11_keep_205 : decode cX11_keep 205 = .ok (.bipush 98, 2) := by decide +kernel
theorem dX11_keep_207 : decode cX11_keep 207 = .ok (.iload_n 2, 1) := by decide +kernel
theorem dX11_keep_208 : decode cX11_keep 208 = .ok (.iadd, 1) := by decide +kernel
theorem dX11_keep_209 : decode cX11_keep 209 = .ok (.aload_n 0, 1) := by decide +kernel
theorem dX11_keep_210 : decode cX11_keep 210 = .ok (.getfield 73, 3) := by decide +kernel
theorem dX11_keep_213 : decode cX11_keep 213 = .ok (.iload_n 2, 1) := by decide +kernel
theorem dX11_keep_214 : decode cX11_keep 214 = .ok (.iaload, 1) := by decide +kernel
theorem dX11_keep_215 : decode cX11_keep 215 = .ok (.iastore, 1) := by decide +kernel
theorem dX11_keep_216 : decode cX11_keep 216 = .ok (.aload_n 1, 1) := by decide +kernel
theorem dX11_keep_217 : decode cX11_keep 217 = .ok (.bipush 108, 2) := by decide +kernel
theorem dX11_keep_219 : decode cX11_keep 219 = .ok (.iload_n 2, 1) := by decide +kernel
theorem dX11_keep_220 : decode cX11_keep 220 = .ok (.iadd, 1) := by decide +kernel
theorem dX11_keep_221 : decode cX11_keep 221 = .ok (.aload_n 0, 1) := by decide +kernel
theorem dX11_keep_222 : decode cX11_keep 222 = .ok (.getfield 76, 3) := by decide +kernel
theorem dX11_keep_225 : decode cX11_keep 225 = .ok (.iload_n 2, 1) := by decide +kernel
theorem dX11_keep_226 : decode cX11_keep 226 = .ok (.iaload, 1) := by decide +kernel
theorem dX11_keep_227 : decode cX11_keep 227 = .ok (.iastore, 1) := by decide +kernel
theorem dX11_keep_228 : decode cX11_keep 228 = .ok (.iinc 2 1, 3) := by decide +kernel
theorem dX11_keep_231 : decode cX11_keep 231 = .ok (.goto (-33), 3) := by decide +kernel
theorem dX11_keep_234 : decode cX11_keep 234 = .ok (.iconst 0, 1) := by decide +kernel
theorem dX11_keep_235 : decode cX11_keep 235 = .ok (.istore_n 2, 1) := by decide +kernel
theorem dX11_keep_236 : decode cX11_keep 236 = .ok (.iload_n 2, 1) := by decide +kernel
theorem dX11_keep_237 : decode cX11_keep 237 = .ok (.bipush 8, 2) := by decide +kernel
theorem dX11_keep_239 : decode cX11_keep 239 = .ok (.if_icmp .ge 33, 3) := by decide +kernel
theorem dX11_keep_242 : decode cX11_keep 242 = .ok (.aload_n 1, 1) := by decide +kernel
theorem dX11_keep_243 : decode cX11_keep 243 = .ok (.bipush 118, 2) := by decide +kernel
theorem dX11_keep_245 : decode cX11_keep 245 = .ok (.iload_n 2, 1) := by decide +kernel
theorem dX11_keep_246 : decode cX11_keep 246 = .ok (.iadd, 1) := by decide +kernel
theorem dX11_keep_247 : decode cX11_keep 247 = .ok (.aload_n 0, 1) := by decide +kernel
theorem dX11_keep_248 : decode cX11_keep 248 = .ok (.getfield 79, 3) := by decide +kernel
theorem dX11_keep_251 : decode cX11_keep 251 = .ok (.iload_n 2, 1) := by decide +kernel
theorem dX11_keep_252 : decode cX11_keep 252 = .ok (.iaload, 1) := by decide +kernel
theorem dX11_keep_253 : decode cX11_keep 253 = .ok (.iastore, 1) := by decide +kernel
theorem dX11_keep_254 : decode cX11_keep 254 = .ok (.aload_n 1, 1) := by decide +kernel
theorem dX11_keep_255 : decode cX11_keep 255 = .ok (.bipush 126, 2) := by decide +kernel
theorem dX11_keep_257 : decode cX11_keep 257 = .ok (.iload_n 2, 1) := by decide +kernel
theorem dX11_keep_258 : decode cX11_keep 258 = .ok (.iadd, 1) := by decide +kernel
theorem dX11_keep_259 : decode cX11_keep 259 = .ok (.aload_n 0, 1) := by decide +kernel
theorem dX11_keep_260 : decode cX11_keep 260 = .ok (.getfield 82, 3) := by decide +kernel
theorem dX11_keep_263 : decode cX11_keep 263 = .ok (.iload_n 2, 1) := by decide +kernel
theorem dX11_keep_264 : decode cX11_keep 264 = .ok (.iaload, 1) := by decide +kernel
theorem dX11_keep_265 : decode cX11_keep 265 = .ok (.iastore, 1) := by decide +kernel
theorem dX11_keep_266 : decode cX11_keep 266 = .ok (.iinc 2 1, 3) := by decide +kernel
theorem dX11_keep_269 : decode cX11_keep 269 = .ok (.goto (-33), 3) := by decide +kernel
theorem dX11_keep_272 : decode cX11_keep 272 = .ok (.aload_n 1, 1) := by decide +kernel
theorem dX11_keep_273 : decode cX11_keep 273 = .ok (.sipush 134, 3) := by decide +kernel
theorem dX11_keep_276 : decode cX11_keep 276 = .ok (.aload_n 0, 1) := by decide +kernel
theorem dX11_keep_277 : decode cX11_keep 277 = .ok (.getfield 111, 3) := by decide +kernel
theorem dX11_keep_280 : decode cX11_keep 280 = .ok (.iastore, 1) := by decide +kernel
theorem dX11_keep_281 : decode cX11_keep 281 = .ok (.aload_n 1, 1) := by decide +kernel
theorem dX11_keep_282 : decode cX11_keep 282 = .ok (.sipush 135, 3) := by decide +kernel
theorem dX11_keep_285 : decode cX11_keep 285 = .ok (.aload_n 0, 1) := by decide +kernel
theorem dX11_keep_286 : decode cX11_keep 286 = .ok (.getfield 221, 3) := by decide +kernel
theorem dX11_keep_289 : decode cX11_keep 289 = .ok (.iastore, 1) := by decide +kernel
theorem dX11_keep_290 : decode cX11_keep 290 = .ok (.aload_n 1, 1) := by decide +kernel
theorem dX11_keep_291 : decode cX11_keep 291 = .ok (.sipush 136, 3) := by decide +kernel
theorem dX11_keep_294 : decode cX11_keep 294 = .ok (.aload_n 0, 1) := by decide +kernel
theorem dX11_keep_295 : decode cX11_keep 295 = .ok (.getfield 284, 3) := by decide +kernel
theorem dX11_keep_298 : decode cX11_keep 298 = .ok (.iastore, 1) := by decide +kernel
theorem dX11_keep_299 : decode cX11_keep 299 = .ok (.aload_n 1, 1) := by decide +kernel
theorem dX11_keep_300 : decode cX11_keep 300 = .ok (.sipush 137, 3) := by decide +kernel
theorem dX11_keep_303 : decode cX11_keep 303 = .ok (.aload_n 0, 1) := by decide +kernel
theorem dX11_keep_304 : decode cX11_keep 304 = .ok (.getfield 301, 3) := by decide +kernel
theorem dX11_keep_307 : decode cX11_keep 307 = .ok (.iastore, 1) := by decide +kernel
theorem dX11_keep_308 : decode cX11_keep 308 = .ok (.aload_n 1, 1) := by decide +kernel
theorem dX11_keep_309 : decode cX11_keep 309 = .ok (.sipush 138, 3) := by decide +kernel
theorem dX11_keep_312 : decode cX11_keep 312 = .ok (.aload_n 0, 1) := by decide +kernel
theorem dX11_keep_313 : decode cX11_keep 313 = .ok (.getfield 307, 3) := by decide +kernel
theorem dX11_keep_316 : decode cX11_keep 316 = .ok (.iastore, 1) := by decide +kernel
theorem dX11_keep_317 : decode cX11_keep 317 = .ok (.aload_n 1, 1) := by decide +kernel
theorem dX11_keep_318 : decode cX11_keep 318 = .ok (.sipush 139, 3) := by decide +kernel
theorem dX11_keep_321 : decode cX11_keep 321 = .ok (.aload_n 0, 1) := by decide +kernel
theorem dX11_keep_322 : decode cX11_keep 322 = .ok (.getfield 107, 3) := by decide +kernel
theorem dX11_keep_325 : decode cX11_keep 325 = .ok (.iastore, 1) := by decide +kernel
theorem dX11_keep_326 : decode cX11_keep 326 = .ok (.return_, 1) := by decide +kernel
theorem dX11_again_0 : decode cX11_again 0 = .ok (.iconst 0, 1) := by decide +kernel
theorem dX11_again_1 : decode cX11_again 1 = .ok (.istore_n 2, 1) := by decide +kernel
theorem dX11_again_2 : decode cX11_again 2 = .ok (.iload_n 2, 1) := by decide +kernel
theorem dX11_again_3 : decode cX11_again 3 = .ok (.bipush 12, 2) := by decide +kernel
theorem dX11_again_5 : decode cX11_again 5 = .ok (.if_icmp .ge 30, 3) := by decide +kernel
theorem dX11_again_8 : decode cX11_again 8 = .ok (.aload_n 0, 1) := by decide +kernel
theorem dX11_again_9 : decode cX11_again 9 = .ok (.getfield 9, 3) := by decide +kernel
theorem dX11_again_12 : decode cX11_again 12 = .ok (.iload_n 2, 1) := by decide +kernel
theorem dX11_again_13 : decode cX11_again 13 = .ok (.aload_n 1, 1) := by decide +kernel
theorem dX11_again_14 : decode cX11_again 14 = .ok (.iload_n 2, 1) := by decide +kernel
theorem dX11_again_15 : decode cX11_again 15 = .ok (.iaload, 1) := by decide +kernel
theorem dX11_again_16 : decode cX11_again 16 = .ok (.iastore, 1) := by decide +kernel
theorem dX11_again_17 : decode cX11_again 17 = .ok (.aload_n 0, 1) := by decide +kernel
theorem dX11_again_18 : decode cX11_again 18 = .ok (.getfield 15, 3) := by decide +kernel
theorem dX11_again_21 : decode cX11_again 21 = .ok (.iload_n 2, 1) := by decide +kernel
theorem dX11_again_22 : decode cX11_again 22 = .ok (.aload_n 1, 1) := by decide +kernel
theorem dX11_again_23 : decode cX11_again 23 = .ok (.bipush 12, 2) := by decide +kernel
theorem dX11_again_25 : decode cX11_again 25 = .ok (.iload_n 2, 1) := by decide +kernel
theorem dX11_again_26 : decode cX11_again 26 = .ok (.iadd, 1) := by decide +kernel
theorem dX11_again_27 : decode cX11_again 27 = .ok (.iaload, 1) := by decide +kernel
theorem dX11_again_28 : decode cX11_again 28 = .ok (.iastore, 1) := by decide +kernel
theorem dX11_again_29 : decode cX11_again 29 = .ok (.iinc 2 1, 3) := by decide +kernel
theorem dX11_again_32 : decode cX11_again 32 = .ok (.goto (-30), 3) := by decide +kernel
theorem dX11_again_35 : decode cX11_again 35 = .ok (.iconst 0, 1) := by decide +kernel
theorem dX11_again_36 : decode cX11_again 36 = .ok (.istore_n 2, 1) := by decide +kernel
theorem dX11_again_37 : decode cX11_again 37 = .ok (.iload_n 2, 1) := by decide +kernel
theorem dX11_again_38 : decode cX11_again 38 = .ok (.bipush 6, 2) := by decide +kernel
theorem dX11_again_40 : decode cX11_again 40 = .ok (.if_icmp .ge 69, 3) := by decide +kernel
theorem dX11_again_43 : decode cX11_again 43 = .ok (.aload_n 0, 1) := by decide +kernel
theorem dX11_again_44 : decode cX11_again 44 = .ok (.getfield 18, 3) := by decide +kernel
theorem dX11_again_47 : decode cX11_again 47 = .ok (.iload_n 2, 1) := by decide +kernel
theorem dX11_again_48 : decode cX11_again 48 = .ok (.aload_n 1, 1) := by decide +kernel
theorem dX11_again_49 : decode cX11_again 49 = .ok (.bipush 24, 2) := by decide +kernel
theorem dX11_again_51 : decode cX11_again 51 = .ok (.iload_n 2, 1) := by decide +kernel
theorem dX11_again_52 : decode cX11_again 52 = .ok (.iadd, 1) := by decide +kernel
theorem dX11_again_53 : decode cX11_again 53 = .ok (.iaload, 1) := by decide +kernel
theorem dX11_again_54 : decode cX11_again 54 = .ok (.iastore, 1) := by decide +kernel
theorem dX11_again_55 : decode cX11_again 55 = .ok (.aload_n 0, 1) := by decide +kernel
theorem dX11_again_56 : decode cX11_again 56 = .ok (.getfield 21, 3) := by decide +kernel
theorem dX11_again_59 : decode cX11_again 59 = .ok (.iload_n 2, 1) := by decide +kernel
theorem dX11_again_60 : decode cX11_again 60 = .ok (.aload_n 1, 1) := by decide +kernel
theorem dX11_again_61 : decode cX11_again 61 = .ok (.bipush 30, 2) := by decide +kernel
theorem dX11_again_63 : decode cX11_again 63 = .ok (.iload_n 2, 1) := by decide +kernel
theorem dX11_again_64 : decode cX11_again 64 = .ok (.iadd, 1) := by decide +kernel
theorem dX11_again_65 : decode cX11_again 65 = .ok (.iaload, 1) := by decide +kernel
theorem dX11_again_66 : decode cX11_again 66 = .ok (.iastore, 1) := by decide +kernel
theorem dX11_again_67 : decode cX11_again 67 = .ok (.aload_n 0, 1) := by decide +kernel
theorem dX11_again_68 : decode cX11_again 68 = .ok (.getfield 24, 3) := by decide +kernel
theorem dX11_again_71 : decode cX11_again 71 = .ok (.iload_n 2, 1) := by decide +kernel
theorem dX11_again_72 : decode cX11_again 72 = .ok (.aload_n 1, 1) := by decide +kernel
theorem dX11_again_73 : decode cX11_again 73 = .ok (.bipush 36, 2) := by decide +kernel
theorem dX11_again_75 : decode cX11_again 75 = .ok (.iload_n 2, 1) := by decide +kernel
theorem dX11_again_76 : decode cX11_again 76 = .ok (.iadd, 1) := by decide +kernel
theorem dX11_again_77 : decode cX11_again 77 = .ok (.iaload, 1) := by decide +kernel
theorem dX11_again_78 : decode cX11_again 78 = .ok (.iastore, 1) := by decide +kernel
theorem dX11_again_79 : decode cX11_again 79 = .ok (.aload_n 0, 1) := by decide +kernel
theorem dX11_again_80 : decode cX11_again 80 = .ok (.getfield 27, 3) := by decide +kernel
theorem dX11_again_83 : decode cX11_again 83 = .ok (.iload_n 2, 1) := by decide +kernel
theorem dX11_again_84 : decode cX11_again 84 = .ok (.aload_n 1, 1) := by decide +kernel
theorem dX11_again_85 : decode cX11_again 85 = .ok (.bipush 42, 2) := by decide +kernel
theorem dX11_again_87 : decode cX11_again 87 = .ok (.iload_n 2, 1) := by decide +kernel
theorem dX11_again_88 : decode cX11_again 88 = .ok (.iadd, 1) := by decide +kernel
theorem dX11_again_89 : decode cX11_again 89 = .ok (.iaload, 1) := by decide +kernel
theorem dX11_again_90 : decode cX11_again 90 = .ok (.iastore, 1) := by decide +kernel
theorem dX11_again_91 : decode cX11_again 91 = .ok (.aload_n 0, 1) := by decide +kernel
theorem dX11_again_92 : decode cX11_again 92 = .ok (.getfield 30, 3) := by decide +kernel
theorem dX11_again_95 : decode cX11_again 95 = .ok (.iload_n 2, 1) := by decide +kernel
theorem dX11_again_96 : decode cX11_again 96 = .ok (.aload_n 1, 1) := by decide +kernel
theorem dX11_again_97 : decode cX11_again 97 = .ok (.bipush 48, 2) := by decide +kernel
theorem dX11_again_99 : decode cX11_again 99 = .ok (.iload_n 2, 1) := by decide +kernel
theorem dX11_again_100 : decode cX11_again 100 = .ok (.iadd, 1) := by decide +kernel
theorem dX11_again_101 : decode cX11_again 101 = .ok (.iaload, 1) := by decide +kernel
theorem dX11_again_102 : decode cX11_again 102 = .ok (.iastore, 1) := by decide +kernel
theorem dX11_again_103 : decode cX11_again 103 = .ok (.iinc 2 1, 3) := by decide +kernel
theorem dX11_again_106 : decode cX11_again 106 = .ok (.goto (-69), 3) := by decide +kernel
theorem dX11_again_109 : decode cX11_again 109 = .ok (.iconst 0, 1) := by decide +kernel
theorem dX11_again_110 : decode cX11_again 110 = .ok (.istore_n 2, 1) := by decide +kernel
theorem dX11_again_111 : decode cX11_again 111 = .ok (.iload_n 2, 1) := by decide +kernel
theorem dX11_again_112 : decode cX11_again 112 = .ok (.bipush 24, 2) := by decide +kernel
theorem dX11_again_114 : decode cX11_again 114 = .ok (.if_icmp .ge 21, 3) := by decide +kernel
theorem dX11_again_117 : decode cX11_again 117 = .ok (.aload_n 0, 1) := by decide +kernel
theorem dX11_again_118 : decode cX11_again 118 = .ok (.getfield 33, 3) := by decide +kernel
theorem dX11_again_121 : decode cX11_again 121 = .ok (.iload_n 2, 1) := by decide +kernel
theorem dX11_again_122 : decode cX11_again 122 = .ok (.aload_n 1, 1) := by decide +kernel
theorem dX11_again_123 : decode cX11_again 123 = .ok (.bipush 54, 2) := by decide +kernel
theorem dX11_again_125 : decode cX11_again 125 = .ok (.iload_n 2, 1) := by decide +kernel
theorem dX11_again_126 : decode cX11_again 126 = .ok (.iadd, 1) := by decide +kernel
theorem dX11_again_127 : decode cX11_again 127 = .ok (.iaload, 1) := by decide +kernel
theorem dX11_again_128 : decode cX11_again 128 = .ok (.iastore, 1) := by decide +kernel
theorem dX11_again_129 : decode cX11_again 129 = .ok (.iinc 2 1, 3) := by decide +kernel
theorem dX11_again_132 : decode cX11_again 132 = .ok (.goto (-21), 3) := by decide +kernel
theorem dX11_again_135 : decode cX11_again 135 = .ok (.iconst 0, 1) := by decide +kernel
theorem dX11_again_136 : decode cX11_again 136 = .ok (.istore_n 2, 1) := by decide +kernel
theorem dX11_again_137 : decode cX11_again 137 = .ok (.iload_n 2, 1) := by decide +kernel
theorem dX11_again_138 : decode cX11_again 138 = .ok (.iconst 5, 1) := by decide +kernel
theorem dX11_again_139 : decode cX11_again 139 = .ok (.if_icmp .ge 57, 3) := by decide +kernel
theorem dX11_again_142 : decode cX11_again 142 = .ok (.aload_n 0, 1) := by decide +kernel
theorem dX11_again_143 : decode cX11_again 143 = .ok (.getfield 61, 3) := by decide +kernel
theorem dX11_again_146 : decode cX11_again 146 = .ok (.iload_n 2, 1) := by decide +kernel
theorem dX11_again_147 : decode cX11_again 147 = .ok (.aload_n 1, 1) := by decide +kernel
theorem dX11_again_148 : decode cX11_again 148 = .ok (.bipush 78, 2) := by decide +kernel
theorem dX11_again_150 : decode cX11_again 150 = .ok (.iload_n 2, 1) := by decide +kernel
theorem dX11_again_151 : decode cX11_again 151 = .ok (.iadd, 1) := by decide +kernel
theorem dX11_again_152 : decode cX11_again 152 = .ok (.iaload, 1) := by decide +kernel
theorem dX11_again_153 : decode cX11_again 153 = .ok (.iastore, 1) := by decide +kernel
theorem dX11_again_154 : decode cX11_again 154 = .ok (.aload_n 0, 1) := by decide +kernel
theorem dX11_again_155 : decode cX11_again 155 = .ok (.getfield 64, 3) := by decide +kernel
theorem dX11_again_158 : decode cX11_again 158 = .ok (.iload_n 2, 1) := by decide +kernel
theorem dX11_again_159 : decode cX11_again 159 = .ok (.aload_n 1, 1) := by decide +kernel
theorem dX11_again_160 : decode cX11_again 160 = .ok (.bipush 83, 2) := by decide +kernel
theorem dX11_again_162 : decode cX11_again 162 = .ok (.iload_n 2, 1) := by decide +kernel
theorem dX11_again_163 : decode cX11_again 163 = .ok (.iadd, 1) := by decide +kernel
theorem dX11_again_164 : decode cX11_again 164 = .ok (.iaload, 1) := by decide +kernel
theorem dX11_again_165 : decode cX11_again 165 = .ok (.iastore, 1) := by decide +kernel
theorem dX11_again_166 : decode cX11_again 166 = .ok (.aload_n 0, 1) := by decide +kernel
theorem dX11_again_167 : decode cX11_again 167 = .ok (.getfield 67, 3) := by decide +kernel
theorem dX11_again_170 : decode cX11_again 170 = .ok (.iload_n 2, 1) := by decide +kernel
theorem dX11_again_171 : decode cX11_again 171 = .ok (.aload_n 1, 1) := by decide +kernel
theorem dX11_again_172 : decode cX11_again 172 = .ok (.bipush 88, 2) := by decide +kernel
theorem dX11_again_174 : decode cX11_again 174 = .ok (.iload_n 2, 1) := by decide +kernel
theorem dX11_again_175 : decode cX11_again 175 = .ok (.iadd, 1) := by decide +kernel
theorem dX11_again_176 : decode cX11_again 176 = .ok (.iaload, 1) := by decide +kernel
theorem dX11_again_177 : decode cX11_again 177 = .ok (.iastore, 1) := by decide +kernel
theorem dX11_again_178 : decode cX11_again 178 = .ok (.aload_n 0, 1) := by decide +kernel
theorem dX11_again_179 : decode cX11_again 179 = .ok (.getfield 70, 3) := by decide +kernel
theorem dX11_again_182 : decode cX11_again 182 = .ok (.iload_n 2, 1) := by decide +kernel
theorem dX11_again_183 : decode cX11_again 183 = .ok (.aload_n 1, 1) := by decide +kernel
theorem dX11_again_184 : decode cX11_again 184 = .ok (.bipush 93, 2) := by decide +kernel
theorem dX11_again_186 : decode cX11_again 186 = .ok (.iload_n 2, 1) := by decide +kernel
theorem dX11_again_187 : decode cX11_again 187 = .ok (.iadd, 1) := by decide +kernel
theorem dX11_again_188 : decode cX11_again 188 = .ok (.iaload, 1) := by decide +kernel
theorem dX11_again_189 : decode cX11_again 189 = .ok (.iastore, 1) := by decide +kernel
theorem dX11_again_190 : decode cX11_again 190 = .ok (.iinc 2 1, 3) := by decide +kernel
theorem dX11_again_193 : decode cX11_again 193 = .ok (.goto (-56), 3) := by decide +kernel
theorem dX11_again_196 : decode cX11_again 196 = .ok (.iconst 0, 1) := by decide +kernel
theorem dX11_again_197 : decode cX11_again 197 = .ok (.istore_n 2, 1) := by decide +kernel
theorem dX11_again_198 : decode cX11_again 198 = .ok (.iload_n 2, 1) := by decide +kernel
theorem dX11_again_199 : decode cX11_again 199 = .ok (.bipush 10, 2) := by decide +kernel
theorem dX11_again_201 : decode cX11_again 201 = .ok (.if_icmp .ge 33, 3) := by decide +kernel
theorem dX11_again_204 : decode cX11_again 204 = .ok (.aload_n 0, 1) := by decide +kernel
theorem dX11_again_205 : decode cX11_again 205 = .ok (.getfield 73, 3) := by decide +kernel
theorem dX11_again_208 : decode cX11_again 208 = .ok (.iload_n 2, 1) := by decide +kernel
theorem dX11_again_209 : decode cX11_again 209 = .ok (.aload_n 1, 1) := by decide +kernel
theorem dX11_again_210 : decode cX11_again 210 = .ok (.bipush 98, 2) := by decide +kernel
theorem dX11_again_212 : decode cX11_again 212 = .ok (.iload_n 2, 1) := by decide +kernel
theorem dX11_again_213 : decode cX11_again 213 = .ok (.iadd, 1) := by decide +kernel
theorem dX11_again_214 : decode cX11_again 214 = .ok (.iaload, 1) := by decide +kernel
theorem dX11_again_215 : decode cX11_again 215 = .ok (.iastore, 1) := by decide +kernel
theorem dX11_again_216 : decode cX11_again 216 = .ok (.aload_n 0, 1) := by decide +kernel
theorem dX11_again_217 : decode cX11_again 217 = .ok (.getfield 76, 3) := by decide +kernel
theorem dX11_again_220 : decode cX11_again 220 = .ok (.iload_n 2, 1) := by decide +kernel
theorem dX11_again_221 : decode cX11_again 221 = .ok (.aload_n 1, 1) := by decide +kernel
theorem dX11_again_222 : decode cX11_again 222 = .ok (.bipush 108, 2) := by decide +kernel
theorem dX11_again_224 : decode cX11_again 224 = .ok (.iload_n 2, 1) := by decide +kernel
theorem dX11_again_225 : decode cX11_again 225 = .ok (.iadd, 1) := by decide +kernel
theorem dX11_again_226 : decode cX11_again 226 = .ok (.iaload, 1) := by decide +kernel
theorem dX11_again_227 : decode cX11_again 227 = .ok (.iastore, 1) := by decide +kernel
theorem dX11_again_228 : decode cX11_again 228 = .ok (.iinc 2 1, 3) := by decide +kernel
theorem dX11_again_231 : decode cX11_again 231 = .ok (.goto (-33), 3) := by decide +kernel
theorem dX11_again_234 : decode cX11_again 234 = .ok (.iconst 0, 1) := by decide +kernel
theorem dX11_again_235 : decode cX11_again 235 = .ok (.istore_n 2, 1) := by decide +kernel
theorem dX11_again_236 : decode cX11_again 236 = .ok (.iload_n 2, 1) := by decide +kernel
theorem dX11_again_237 : decode cX11_again 237 = .ok (.bipush 8, 2) := by decide +kernel
theorem dX11_again_239 : decode cX11_again 239 = .ok (.if_icmp .ge 33, 3) := by decide +kernel
theorem dX11_again_242 : decode cX11_again 242 = .ok (.aload_n 0, 1) := by decide +kernel
theorem dX11_again_243 : decode cX11_again 243 = .ok (.getfield 79, 3) := by decide +kernel
theorem dX11_again_246 : decode cX11_again 246 = .ok (.iload_n 2, 1) := by decide +kernel
theorem dX11_again_247 : decode cX11_again 247 = .ok (.aload_n 1, 1) := by decide +kernel
theorem dX11_again_248 : decode cX11_again 248 = .ok (.bipush 118, 2) := by decide +kernel
theorem dX11_again_250 : decode cX11_again 250 = .ok (.iload_n 2, 1) := by decide +kernel
theorem dX11_again_251 : decode cX11_again 251 = .ok (.iadd, 1) := by decide +kernel
theorem dX11_again_252 : decode cX11_again 252 = .ok (.iaload, 1) := by decide +kernel
theorem dX11_again_253 : decode cX11_again 253 = .ok (.iastore, 1) := by decide +kernel
theorem dX11_again_254 : decode cX11_again 254 = .ok (.aload_n 0, 1) := by decide +kernel
theorem dX11_again_255 : decode cX11_again 255 = .ok (.getfield 82, 3) := by decide +kernel
theorem dX11_again_258 : decode cX11_again 258 = .ok (.iload_n 2, 1) := by decide +kernel
theorem dX11_again_259 : decode cX11_again 259 = .ok (.aload_n 1, 1) := by decide +kernel
theorem dX11_again_260 : decode cX11_again 260 = .ok (.bipush 126, 2) := by decide +kernel
theorem dX11_again_262 : decode cX11_again 262 = .ok (.iload_n 2, 1) := by decide +kernel
theorem dX11_again_263 : decode cX11_again 263 = .ok (.iadd, 1) := by decide +kernel
theorem dX11_again_264 : decode cX11_again 264 = .ok (.iaload, 1) := by decide +kernel
theorem dX11_again_265 : decode cX11_again 265 = .ok (.iastore, 1) := by decide +kernel
theorem dX11_again_266 : decode cX11_again 266 = .ok (.iinc 2 1, 3) := by decide +kernel
theorem dX11_again_269 : decode cX11_again 269 = .ok (.goto (-33), 3) := by decide +kernel
theorem dX11_again_272 : decode cX11_again 272 = .ok (.aload_n 0, 1) := by decide +kernel
theorem dX11_again_273 : decode cX11_again 273 = .ok (.aload_n 1, 1) := by decide +kernel
theorem dX11_again_274 : decode cX11_again 274 = .ok (.sipush 134, 3) := by decide +kernel
theorem dX11_again_277 : decode cX11_again 277 = .ok (.iaload, 1) := by decide +kernel
theorem dX11_again_278 : decode cX11_again 278 = .ok (.putfield 111, 3) := by decide +kernel
theorem dX11_again_281 : decode cX11_again 281 = .ok (.aload_n 0, 1) := by decide +kernel
theorem dX11_again_282 : decode cX11_again 282 = .ok (.aload_n 1, 1) := by decide +kernel
theorem dX11_again_283 : decode cX11_again 283 = .ok (.sipush 135, 3) := by decide +kernel
theorem dX11_again_286 : decode cX11_again 286 = .ok (.iaload, 1) := by decide +kernel
theorem dX11_again_287 : decode cX11_again 287 = .ok (.putfield 221, 3) := by decide +kernel
theorem dX11_again_290 : decode cX11_again 290 = .ok (.aload_n 0, 1) := by decide +kernel
theorem dX11_again_291 : decode cX11_again 291 = .ok (.aload_n 1, 1) := by decide +kernel
theorem dX11_again_292 : decode cX11_again 292 = .ok (.sipush 136, 3) := by decide +kernel
theorem dX11_again_295 : decode cX11_again 295 = .ok (.iaload, 1) := by decide +kernel
theorem dX11_again_296 : decode cX11_again 296 = .ok (.putfield 284, 3) := by decide +kernel
theorem dX11_again_299 : decode cX11_again 299 = .ok (.aload_n 0, 1) := by decide +kernel
theorem dX11_again_300 : decode cX11_again 300 = .ok (.aload_n 1, 1) := by decide +kernel
theorem dX11_again_301 : decode cX11_again 301 = .ok (.sipush 137, 3) := by decide +kernel
theorem dX11_again_304 : decode cX11_again 304 = .ok (.iaload, 1) := by decide +kernel
theorem dX11_again_305 : decode cX11_again 305 = .ok (.putfield 301, 3) := by decide +kernel
theorem dX11_again_308 : decode cX11_again 308 = .ok (.aload_n 0, 1) := by decide +kernel
theorem dX11_again_309 : decode cX11_again 309 = .ok (.aload_n 1, 1) := by decide +kernel
theorem dX11_again_310 : decode cX11_again 310 = .ok (.sipush 138, 3) := by decide +kernel
theorem dX11_again_313 : decode cX11_again 313 = .ok (.iaload, 1) := by decide +kernel
theorem dX11_again_314 : decode cX11_again 314 = .ok (.putfield 307, 3) := by decide +kernel
theorem dX11_again_317 : decode cX11_again 317 = .ok (.aload_n 0, 1) := by decide +kernel
theorem dX11_again_318 : decode cX11_again 318 = .ok (.aload_n 1, 1) := by decide +kernel
theorem dX11_again_319 : decode cX11_again 319 = .ok (.sipush 139, 3) := by decide +kernel
theorem dX11_again_322 : decode cX11_again 322 = .ok (.iaload, 1) := by decide +kernel
theorem dX11_again_323 : decode cX11_again 323 = .ok (.putfield 107, 3) := by decide +kernel
theorem dX11_again_326 : decode cX11_again 326 = .ok (.return_, 1) := by decide +kernel
theorem dX11_image_0 : decode cX11_image 0 = .ok (.aload_n 0, 1) := by decide +kernel
theorem dX11_image_1 : decode cX11_image 1 = .ok (.iconst 1, 1) := by decide +kernel
theorem dX11_image_2 : decode cX11_image 2 = .ok (.putfield 310, 3) := by decide +kernel
theorem dX11_image_5 : decode cX11_image 5 = .ok (.aload_n 0, 1) := by decide +kernel
theorem dX11_image_6 : decode cX11_image 6 = .ok (.aload_n 0, 1) := by decide +kernel
theorem dX11_image_7 : decode cX11_image 7 = .ok (.getfield 88, 3) := by decide +kernel
theorem dX11_image_10 : decode cX11_image 10 = .ok (.invokevirtual 269, 3) := by decide +kernel
theorem dX11_image_13 : decode cX11_image 13 = .ok (.aload_n 0, 1) := by decide +kernel
theorem dX11_image_14 : decode cX11_image 14 = .ok (.getfield 111, 3) := by decide +kernel
theorem dX11_image_17 : decode cX11_image 17 = .ok (.ireturn, 1) := by decide +kernel
theorem dX11_undo_0 : decode cX11_undo 0 = .ok (.aload_n 0, 1) := by decide +kernel
theorem dX11_undo_1 : decode cX11_undo 1 = .ok (.getfield 310, 3) := by decide +kernel
theorem dX11_undo_4 : decode cX11_undo 4 = .ok (.ifCond .ne 6, 3) := by decide +kernel
theorem dX11_undo_7 : decode cX11_undo 7 = .ok (.bipush (-3), 2) := by decide +kernel
theorem dX11_undo_9 : decode cX11_undo 9 = .ok (.ireturn, 1) := by decide +kernel
theorem dX11_undo_10 : decode cX11_undo 10 = .ok (.aload_n 0, 1) := by decide +kernel
theorem dX11_undo_11 : decode cX11_undo 11 = .ok (.aload_n 0, 1) := by decide +kernel
theorem dX11_undo_12 : decode cX11_undo 12 = .ok (.getfield 88, 3) := by decide +kernel
theorem dX11_undo_15 : decode cX11_undo 15 = .ok (.invokevirtual 273, 3) := by decide +kernel
theorem dX11_undo_18 : decode cX11_undo 18 = .ok (.aload_n 0, 1) := by decide +kernel
theorem dX11_undo_19 : decode cX11_undo 19 = .ok (.getfield 111, 3) := by decide +kernel
theorem dX11_undo_22 : decode cX11_undo 22 = .ok (.ireturn, 1) := by decide +kernel
theorem dX11_ran_0 : decode cX11_ran 0 = .ok (.aload_n 0, 1) := by decide +kernel
theorem dX11_ran_1 : decode cX11_ran 1 = .ok (.getfield 314, 3) := by decide +kernel
theorem dX11_ran_4 : decode cX11_ran 4 = .ok (.bipush 20, 2) := by decide +kernel
theorem dX11_ran_6 : decode cX11_ran 6 = .ok (.if_icmp .ge 13, 3) := by decide +kernel
theorem dX11_ran_9 : decode cX11_ran 9 = .ok (.aload_n 0, 1) := by decide +kernel
theorem dX11_ran_10 : decode cX11_ran 10 = .ok (.getfield 85, 3) := by decide +kernel
theorem dX11_ran_13 : decode cX11_ran 13 = .ok (.aload_n 0, 1) := by decide +kernel
theorem dX11_ran_14 : decode cX11_ran 14 = .ok (.getfield 314, 3) := by decide +kernel
theorem dX11_ran_17 : decode cX11_ran 17 = .ok (.iload_n 1, 1) := by decide +kernel
theorem dX11_ran_18 : decode cX11_ran 18 = .ok (.iastore, 1) := by decide +kernel
theorem dX11_ran_19 : decode cX11_ran 19 = .ok (.aload_n 0, 1) := by decide +kernel
theorem dX11_ran_20 : decode cX11_ran 20 = .ok (.dup, 1) := by decide +kernel
theorem dX11_ran_21 : decode cX11_ran 21 = .ok (.getfield 314, 3) := by decide +kernel
theorem dX11_ran_24 : decode cX11_ran 24 = .ok (.iconst 1, 1) := by decide +kernel
theorem dX11_ran_25 : decode cX11_ran 25 = .ok (.iadd, 1) := by decide +kernel
theorem dX11_ran_26 : decode cX11_ran 26 = .ok (.putfield 314, 3) := by decide +kernel
theorem dX11_ran_29 : decode cX11_ran 29 = .ok (.return_, 1) := by decide +kernel
theorem dX11_above_0 : decode cX11_above 0 = .ok (.iload_n 0, 1) := by decide +kernel
theorem dX11_above_1 : decode cX11_above 1 = .ok (.iconst 4, 1) := by decide +kernel
theorem dX11_above_2 : decode cX11_above 2 = .ok (.if_icmp .ne 7, 3) := by decide +kernel
theorem dX11_above_5 : decode cX11_above 5 = .ok (.iconst 1, 1) := by decide +kernel
theorem dX11_above_6 : decode cX11_above 6 = .ok (.goto 23, 3) := by decide +kernel
theorem dX11_above_9 : decode cX11_above 9 = .ok (.iload_n 0, 1) := by decide +kernel
theorem dX11_above_10 : decode cX11_above 10 = .ok (.iconst 5, 1) := by decide +kernel
theorem dX11_above_11 : decode cX11_above 11 = .ok (.if_icmp .ne 7, 3) := by decide +kernel
theorem dX11_above_14 : decode cX11_above 14 = .ok (.iconst 2, 1) := by decide +kernel
theorem dX11_above_15 : decode cX11_above 15 = .ok (.goto 14, 3) := by decide +kernel
theorem dX11_above_18 : decode cX11_above 18 = .ok (.iload_n 0, 1) := by decide +kernel
theorem dX11_above_19 : decode cX11_above 19 = .ok (.bipush 6, 2) := by decide +kernel
theorem dX11_above_21 : decode cX11_above 21 = .ok (.if_icmp .ne 7, 3) := by decide +kernel
theorem dX11_above_24 : decode cX11_above 24 = .ok (.iconst 3, 1) := by decide +kernel
theorem dX11_above_25 : decode cX11_above 25 = .ok (.goto 4, 3) := by decide +kernel
theorem dX11_above_28 : decode cX11_above 28 = .ok (.iconst 0, 1) := by decide +kernel
theorem dX11_above_29 : decode cX11_above 29 = .ok (.ireturn, 1) := by decide +kernel
theorem dX11_sleeps_0 : decode cX11_sleeps 0 = .ok (.iload_n 2, 1) := by decide +kernel
theorem dX11_sleeps_1 : decode cX11_sleeps 1 = .ok (.tableswitch 105 0 6 #[95, 105, 43, 105, 59, 105, 74], 43) := by decide +kernel
theorem dX11_sleeps_44 : decode cX11_sleeps 44 = .ok (.aload_n 0, 1) := by decide +kernel
theorem dX11_sleeps_45 : decode cX11_sleeps 45 = .ok (.bipush 30, 2) := by decide +kernel
theorem dX11_sleeps_47 : decode cX11_sleeps 47 = .ok (.invokevirtual 317, 3) := by decide +kernel
theorem dX11_sleeps_50 : decode cX11_sleeps 50 = .ok (.aload_n 0, 1) := by decide +kernel
theorem dX11_sleeps_51 : decode cX11_sleeps 51 = .ok (.iload_n 1, 1) := by decide +kernel
theorem dX11_sleeps_52 : decode cX11_sleeps 52 = .ok (.iconst 0, 1) := by decide +kernel
theorem dX11_sleeps_53 : decode cX11_sleeps 53 = .ok (.iload_n 3, 1) := by decide +kernel
theorem dX11_sleeps_54 : decode cX11_sleeps 54 = .ok (.iconst 3, 1) := by decide +kernel
theorem dX11_sleeps_55 : decode cX11_sleeps 55 = .ok (.imul, 1) := by decide +kernel
theorem dX11_sleeps_56 : decode cX11_sleeps 56 = .ok (.invokevirtual 320, 3) := by decide +kernel
theorem dX11_sleeps_59 : decode cX11_sleeps 59 = .ok (.ireturn, 1) := by decide +kernel
theorem dX11_sleeps_60 : decode cX11_sleeps 60 = .ok (.aload_n 0, 1) := by decide +kernel
theorem dX11_sleeps_61 : decode cX11_sleeps 61 = .ok (.bipush 50, 2) := by decide +kernel
theorem dX11_sleeps_63 : decode cX11_sleeps 63 = .ok (.invokevirtual 317, 3) := by decide +kernel
theorem dX11_sleeps_66 : decode cX11_sleeps 66 = .ok (.aload_n 0, 1) := by decide +kernel
theorem dX11_sleeps_67 : decode cX11_sleeps 67 = .ok (.iload_n 1, 1) := by decide +kernel
theorem dX11_sleeps_68 : decode cX11_sleeps 68 = .ok (.iconst 1, 1) := by decide +kernel
theorem dX11_sleeps_69 : decode cX11_sleeps 69 = .ok (.iload_n 3, 1) := by decide +kernel
theorem dX11_sleeps_70 : decode cX11_sleeps 70 = .ok (.invokevirtual 320, 3) := by decide +kernel
theorem dX11_sleeps_73 : decode cX11_sleeps 73 = .ok (.ineg, 1) := by decide +kernel
theorem dX11_sleeps_74 : decode cX11_sleeps 74 = .ok (.ireturn, 1) := by decide +kernel
theorem dX11_sleeps_75 : decode cX11_sleeps 75 = .ok (.aload_n 0, 1) := by decide +kernel
theorem dX11_sleeps_76 : decode cX11_sleeps 76 = .ok (.bipush 71, 2) := by decide +kernel
theorem dX11_sleeps_78 : decode cX11_sleeps 78 = .ok (.invokevirtual 317, 3) := by decide +kernel
theorem dX11_sleeps_81 : decode cX11_sleeps 81 = .ok (.aload_n 0, 1) := by decide +kernel
theorem dX11_sleeps_82 : decode cX11_sleeps 82 = .ok (.iload_n 1, 1) := by decide +kernel
theorem dX11_sleeps_83 : decode cX11_sleeps 83 = .ok (.iconst 3, 1) := by decide +kernel
theorem dX11_sleeps_84 : decode cX11_sleeps 84 = .ok (.iload_n 3, 1) := by decide +kernel
theorem dX11_sleeps_85 : decode cX11_sleeps 85 = .ok (.invokevirtual 320, 3) := by decide +kernel
theorem dX11_sleeps_88 : decode cX11_sleeps 88 = .ok (.aload_n 0, 1) := by decide +kernel
theorem dX11_sleeps_89 : decode cX11_sleeps 89 = .ok (.getfield 21, 3) := by decide +kernel
theorem dX11_sleeps_92 : decode cX11_sleeps 92 = .ok (.iload_n 1, 1) := by decide +kernel
theorem dX11_sleeps_93 : decode cX11_sleeps 93 = .ok (.iaload, 1) := by decide +kernel
theorem dX11_sleeps_94 : decode cX11_sleeps 94 = .ok (.ixor, 1) := by decide +kernel
theorem dX11_sleeps_95 : decode cX11_sleeps 95 = .ok (.ireturn, 1) := by decide +kernel
theorem dX11_sleeps_96 : decode cX11_sleeps 96 = .ok (.aload_n 0, 1) := by decide +kernel
theorem dX11_sleeps_97 : decode cX11_sleeps 97 = .ok (.bipush 10, 2) := by decide +kernel
theorem dX11_sleeps_99 : decode cX11_sleeps 99 = .ok (.invokevirtual 317, 3) := by decide +kernel
theorem dX11_sleeps_102 : decode cX11_sleeps 102 = .ok (.iload_n 3, 1) := by decide +kernel
theorem dX11_sleeps_103 : decode cX11_sleeps 103 = .ok (.iload_n 1, 1) := by decide +kernel
theorem dX11_sleeps_104 : decode cX11_sleeps 104 = .ok (.iadd, 1) := by decide +kernel
theorem dX11_sleeps_105 : decode cX11_sleeps 105 = .ok (.ireturn, 1) := by decide +kernel
theorem dX11_sleeps_106 : decode cX11_sleeps 106 = .ok (.aload_n 0, 1) := by decide +kernel
theorem dX11_sleeps_107 : decode cX11_sleeps 107 = .ok (.iload_n 1, 1) := by decide +kernel
theorem dX11_sleeps_108 : decode cX11_sleeps 108 = .ok (.iload_n 2, 1) := by decide +kernel
theorem dX11_sleeps_109 : decode cX11_sleeps 109 = .ok (.invokestatic 323, 3) := by decide +kernel
theorem dX11_sleeps_112 : decode cX11_sleeps 112 = .ok (.iload_n 3, 1) := by decide +kernel
theorem dX11_sleeps_113 : decode cX11_sleeps 113 = .ok (.invokevirtual 320, 3) := by decide +kernel
theorem dX11_sleeps_116 : decode cX11_sleeps 116 = .ok (.ireturn, 1) := by decide +kernel
theorem dX11_wakes_0 : decode cX11_wakes 0 = .ok (.iload_n 2, 1) := by decide +kernel
theorem dX11_wakes_1 : decode cX11_wakes 1 = .ok (.tableswitch 128 0 6 #[102, 43, 128, 128, 60, 128, 76], 43) := by decide +kernel
theorem dX11_wakes_44 : decode cX11_wakes 44 = .ok (.aload_n 0, 1) := by decide +kernel
theorem dX11_wakes_45 : decode cX11_wakes 45 = .ok (.bipush 20, 2) := by decide +kernel
theorem dX11_wakes_47 : decode cX11_wakes 47 = .ok (.invokevirtual 317, 3) := by decide +kernel
theorem dX11_wakes_50 : decode cX11_wakes 50 = .ok (.aload_n 0, 1) := by decide +kernel
theorem dX11_wakes_51 : decode cX11_wakes 51 = .ok (.iload_n 1, 1) := by decide +kernel
theorem dX11_wakes_52 : decode cX11_wakes 52 = .ok (.iconst 0, 1) := by decide +kernel
theorem dX11_wakes_53 : decode cX11_wakes 53 = .ok (.iload_n 3, 1) := by decide +kernel
theorem dX11_wakes_54 : decode cX11_wakes 54 = .ok (.invokevirtual 326, 3) := by decide +kernel
theorem dX11_wakes_57 : decode cX11_wakes 57 = .ok (.bipush 6, 2) := by decide +kernel
theorem dX11_wakes_59 : decode cX11_wakes 59 = .ok (.ixor, 1) := by decide +kernel
theorem dX11_wakes_60 : decode cX11_wakes 60 = .ok (.ireturn, 1) := by decide +kernel
theorem dX11_wakes_61 : decode cX11_wakes 61 = .ok (.aload_n 0, 1) := by decide +kernel
theorem dX11_wakes_62 : decode cX11_wakes 62 = .ok (.bipush 51, 2) := by decide +kernel
theorem dX11_wakes_64 : decode cX11_wakes 64 = .ok (.invokevirtual 317, 3) := by decide +kernel
theorem dX11_wakes_67 : decode cX11_wakes 67 = .ok (.aload_n 0, 1) := by decide +kernel
theorem dX11_wakes_68 : decode cX11_wakes 68 = .ok (.iload_n 1, 1) := by decide +kernel
theorem dX11_wakes_69 : decode cX11_wakes 69 = .ok (.iconst 1, 1) := by decide +kernel
theorem dX11_wakes_70 : decode cX11_wakes 70 = .ok (.iload_n 3, 1) := by decide +kernel
theorem dX11_wakes_71 : decode cX11_wakes 71 = .ok (.iconst 1, 1) := by decide +kernel
theorem dX11_wakes_72 : decode cX11_wakes 72 = .ok (.iadd, 1) := by decide +kernel
theorem dX11_wakes_73 : decode cX11_wakes 73 = .ok (.invokevirtual 326, 3) := by decide +kernel
theorem dX11_wakes_76 : decode cX11_wakes 76 = .ok (.ireturn, 1) := by decide +kernel
theorem dX11_wakes_77 : decode cX11_wakes 77 = .ok (.aload_n 0, 1) := by decide +kernel
theorem dX11_wakes_78 : decode cX11_wakes 78 = .ok (.bipush 70, 2) := by decide +kernel
theorem dX11_wakes_80 : decode cX11_wakes 80 = .ok (.invokevirtual 317, 3) := by decide +kernel
theorem dX11_wakes_83 : decode cX11_wakes 83 = .ok (.aload_n 0, 1) := by decide +kernel
theorem dX11_wakes_84 : decode cX11_wakes 84 = .ok (.iload_n 1, 1) := by decide +kernel
theorem dX11_wakes_85 : decode cX11_wakes 85 = .ok (.iconst 3, 1) := by decide +kernel
theorem dX11_wakes_86 : decode cX11_wakes 86 = .ok (.iload_n 3, 1) := by decide +kernel
theorem dX11_wakes_87 : decode cX11_wakes 87 = .ok (.invokevirtual 326, 3) := by decide +kernel
theorem dX11_wakes_90 : decode cX11_wakes 90 = .ok (.istore 4, 2) := by decide +kernel
theorem dX11_wakes_92 : decode cX11_wakes 92 = .ok (.iload 4, 2) := by decide +kernel
theorem dX11_wakes_94 : decode cX11_wakes 94 = .ok (.aload_n 0, 1) := by decide +kernel
theorem dX11_wakes_95 : decode cX11_wakes 95 = .ok (.iload_n 1, 1) := by decide +kernel
theorem dX11_wakes_96 : decode cX11_wakes 96 = .ok (.iconst 3, 1) := by decide +kernel
theorem dX11_wakes_97 : decode cX11_wakes 97 = .ok (.iconst 2, 1) := by decide +kernel
theorem dX11_wakes_98 : decode cX11_wakes 98 = .ok (.invokevirtual 320, 3) := by decide +kernel
theorem dX11_wakes_101 : decode cX11_wakes 101 = .ok (.iadd, 1) := by decide +kernel
theorem dX11_wakes_102 : decode cX11_wakes 102 = .ok (.ireturn, 1) := by decide +kernel
theorem dX11_wakes_103 : decode cX11_wakes 103 = .ok (.aload_n 0, 1) := by decide +kernel
theorem dX11_wakes_104 : decode cX11_wakes 104 = .ok (.bipush 11, 2) := by decide +kernel
theorem dX11_wakes_106 : decode cX11_wakes 106 = .ok (.invokevirtual 317, 3) := by decide +kernel
theorem dX11_wakes_109 : decode cX11_wakes 109 = .ok (.aload_n 0, 1) := by decide +kernel
theorem dX11_wakes_110 : decode cX11_wakes 110 = .ok (.iload_n 1, 1) := by decide +kernel
theorem dX11_wakes_111 : decode cX11_wakes 111 = .ok (.aload_n 0, 1) := by decide +kernel
theorem dX11_wakes_112 : decode cX11_wakes 112 = .ok (.getfield 18, 3) := by decide +kernel
theorem dX11_wakes_115 : decode cX11_wakes 115 = .ok (.iload_n 1, 1) := by decide +kernel
theorem dX11_wakes_116 : decode cX11_wakes 116 = .ok (.iaload, 1) := by decide +kernel
theorem dX11_wakes_117 : decode cX11_wakes 117 = .ok (.iload_n 3, 1) := by decide +kernel
theorem dX11_wakes_118 : decode cX11_wakes 118 = .ok (.invokevirtual 320, 3) := by decide +kernel
theorem dX11_wakes_121 : decode cX11_wakes 121 = .ok (.aload_n 0, 1) := by decide +kernel
theorem dX11_wakes_122 : decode cX11_wakes 122 = .ok (.getfield 21, 3) := by decide +kernel
theorem dX11_wakes_125 : decode cX11_wakes 125 = .ok (.iload_n 1, 1) := by decide +kernel
theorem dX11_wakes_126 : decode cX11_wakes 126 = .ok (.iaload, 1) := by decide +kernel
theorem dX11_wakes_127 : decode cX11_wakes 127 = .ok (.isub, 1) := by decide +kernel
theorem dX11_wakes_128 : decode cX11_wakes 128 = .ok (.ireturn, 1) := by decide +kernel
theorem dX11_wakes_129 : decode cX11_wakes 129 = .ok (.aload_n 0, 1) := by decide +kernel
theorem dX11_wakes_130 : decode cX11_wakes 130 = .ok (.iload_n 1, 1) := by decide +kernel
theorem dX11_wakes_131 : decode cX11_wakes 131 = .ok (.iload_n 2, 1) := by decide +kernel
theorem dX11_wakes_132 : decode cX11_wakes 132 = .ok (.invokestatic 323, 3) := by decide +kernel
theorem dX11_wakes_135 : decode cX11_wakes 135 = .ok (.iload_n 3, 1) := by decide +kernel
theorem dX11_wakes_136 : decode cX11_wakes 136 = .ok (.invokevirtual 326, 3) := by decide +kernel
theorem dX11_wakes_139 : decode cX11_wakes 139 = .ok (.ireturn, 1) := by decide +kernel
theorem dX11_tells_0 : decode cX11_tells 0 = .ok (.iload_n 2, 1) := by decide +kernel
theorem dX11_tells_1 : decode cX11_tells 1 = .ok (.lookupswitch 103 #[(0, 82), (3, 35), (5, 66)], 35) := by decide +kernel
theorem dX11_tells_36 : decode cX11_tells 36 = .ok (.aload_n 0, 1) := by decide +kernel
theorem dX11_tells_37 : decode cX11_tells 37 = .ok (.bipush 40, 2) := by decide +kernel
theorem dX11_tells_39 : decode cX11_tells 39 = .ok (.invokevirtual 317, 3) := by decide +kernel
theorem dX11_tells_42 : decode cX11_tells 42 = .ok (.aload_n 0, 1) := by decide +kernel
theorem dX11_tells_43 : decode cX11_tells 43 = .ok (.iload_n 1, 1) := by decide +kernel
theorem dX11_tells_44 : decode cX11_tells 44 = .ok (.iconst 0, 1) := by decide +kernel
theorem dX11_tells_45 : decode cX11_tells 45 = .ok (.iload_n 3, 1) := by decide +kernel
theorem dX11_tells_46 : decode cX11_tells 46 = .ok (.invokevirtual 329, 3) := by decide +kernel
theorem dX11_tells_49 : decode cX11_tells 49 = .ok (.istore 4, 2) := by decide +kernel
theorem dX11_tells_51 : decode cX11_tells 51 = .ok (.iload 4, 2) := by decide +kernel
theorem dX11_tells_53 : decode cX11_tells 53 = .ok (.aload_n 0, 1) := by decide +kernel
theorem dX11_tells_54 : decode cX11_tells 54 = .ok (.iload_n 1, 1) := by decide +kernel
theorem dX11_tells_55 : decode cX11_tells 55 = .ok (.aload_n 0, 1) := by decide +kernel
theorem dX11_tells_56 : decode cX11_tells 56 = .ok (.getfield 18, 3) := by decide +kernel
theorem dX11_tells_59 : decode cX11_tells 59 = .ok (.iload_n 1, 1) := by decide +kernel
theorem dX11_tells_60 : decode cX11_tells 60 = .ok (.iaload, 1) := by decide +kernel
theorem dX11_tells_61 : decode cX11_tells 61 = .ok (.iconst 1, 1) := by decide +kernel
theorem dX11_tells_62 : decode cX11_tells 62 = .ok (.invokevirtual 326, 3) := by decide +kernel
theorem dX11_tells_65 : decode cX11_tells 65 = .ok (.iadd, 1) := by decide +kernel
theorem dX11_tells_66 : decode cX11_tells 66 = .ok (.ireturn, 1) := by decide +kernel
theorem dX11_tells_67 : decode cX11_tells 67 = .ok (.aload_n 0, 1) := by decide +kernel
theorem dX11_tells_68 : decode cX11_tells 68 = .ok (.bipush 60, 2) := by decide +kernel
theorem dX11_tells_70 : decode cX11_tells 70 = .ok (.invokevirtual 317, 3) := by decide +kernel
theorem dX11_tells_73 : decode cX11_tells 73 = .ok (.aload_n 0, 1) := by decide +kernel
theorem dX11_tells_74 : decode cX11_tells 74 = .ok (.iload_n 1, 1) := by decide +kernel
theorem dX11_tells_75 : decode cX11_tells 75 = .ok (.iconst 2, 1) := by decide +kernel
theorem dX11_tells_76 : decode cX11_tells 76 = .ok (.iload_n 3, 1) := by decide +kernel
theorem dX11_tells_77 : decode cX11_tells 77 = .ok (.iload_n 1, 1) := by decide +kernel
theorem dX11_tells_78 : decode cX11_tells 78 = .ok (.isub, 1) := by decide +kernel
theorem dX11_tells_79 : decode cX11_tells 79 = .ok (.invokevirtual 329, 3) := by decide +kernel
theorem dX11_tells_82 : decode cX11_tells 82 = .ok (.ireturn, 1) := by decide +kernel
theorem dX11_tells_83 : decode cX11_tells 83 = .ok (.aload_n 0, 1) := by decide +kernel
theorem dX11_tells_84 : decode cX11_tells 84 = .ok (.bipush 12, 2) := by decide +kernel
theorem dX11_tells_86 : decode cX11_tells 86 = .ok (.invokevirtual 317, 3) := by decide +kernel
theorem dX11_tells_89 : decode cX11_tells 89 = .ok (.aload_n 0, 1) := by decide +kernel
theorem dX11_tells_90 : decode cX11_tells 90 = .ok (.iload_n 1, 1) := by decide +kernel
theorem dX11_tells_91 : decode cX11_tells 91 = .ok (.aload_n 0, 1) := by decide +kernel
theorem dX11_tells_92 : decode cX11_tells 92 = .ok (.getfield 18, 3) := by decide +kernel
theorem dX11_tells_95 : decode cX11_tells 95 = .ok (.iload_n 1, 1) := by decide +kernel
theorem dX11_tells_96 : decode cX11_tells 96 = .ok (.iaload, 1) := by decide +kernel
theorem dX11_tells_97 : decode cX11_tells 97 = .ok (.iload_n 3, 1) := by decide +kernel
theorem dX11_tells_98 : decode cX11_tells 98 = .ok (.invokevirtual 326, 3) := by decide +kernel
theorem dX11_tells_101 : decode cX11_tells 101 = .ok (.iconst 2, 1) := by decide +kernel
theorem dX11_tells_102 : decode cX11_tells 102 = .ok (.imul, 1) := by decide +kernel
theorem dX11_tells_103 : decode cX11_tells 103 = .ok (.ireturn, 1) := by decide +kernel
theorem dX11_tells_104 : decode cX11_tells 104 = .ok (.aload_n 0, 1) := by decide +kernel
theorem dX11_tells_105 : decode cX11_tells 105 = .ok (.iload_n 1, 1) := by decide +kernel
theorem dX11_tells_106 : decode cX11_tells 106 = .ok (.iload_n 2, 1) := by decide +kernel
theorem dX11_tells_107 : decode cX11_tells 107 = .ok (.invokestatic 323, 3) := by decide +kernel
theorem dX11_tells_110 : decode cX11_tells 110 = .ok (.iload_n 3, 1) := by decide +kernel
theorem dX11_tells_111 : decode cX11_tells 111 = .ok (.invokevirtual 329, 3) := by decide +kernel
theorem dX11_tells_114 : decode cX11_tells 114 = .ok (.ireturn, 1) := by decide +kernel
theorem dX11_act_0 : decode cX11_act 0 = .ok (.aload_n 0, 1) := by decide +kernel
theorem dX11_act_1 : decode cX11_act 1 = .ok (.iconst 0, 1) := by decide +kernel
theorem dX11_act_2 : decode cX11_act 2 = .ok (.putfield 314, 3) := by decide +kernel
theorem dX11_act_5 : decode cX11_act 5 = .ok (.aload_n 0, 1) := by decide +kernel
theorem dX11_act_6 : decode cX11_act 6 = .ok (.iload_n 1, 1) := by decide +kernel
theorem dX11_act_7 : decode cX11_act 7 = .ok (.invokevirtual 118, 3) := by decide +kernel
theorem dX11_act_10 : decode cX11_act 10 = .ok (.ifCond .eq 12, 3) := by decide +kernel
theorem dX11_act_13 : decode cX11_act 13 = .ok (.iload_n 2, 1) := by decide +kernel
theorem dX11_act_14 : decode cX11_act 14 = .ok (.iconst 0, 1) := by decide +kernel
theorem dX11_act_15 : decode cX11_act 15 = .ok (.iconst 2, 1) := by decide +kernel
theorem dX11_act_16 : decode cX11_act 16 = .ok (.invokestatic 114, 3) := by decide +kernel
theorem dX11_act_19 : decode cX11_act 19 = .ok (.ifCond .ne 5, 3) := by decide +kernel
theorem dX11_act_22 : decode cX11_act 22 = .ok (.iconst 0, 1) := by decide +kernel
theorem dX11_act_23 : decode cX11_act 23 = .ok (.ireturn, 1) := by decide +kernel
theorem dX11_act_24 : decode cX11_act 24 = .ok (.aload_n 0, 1) := by decide +kernel
theorem dX11_act_25 : decode cX11_act 25 = .ok (.getfield 18, 3) := by decide +kernel
theorem dX11_act_28 : decode cX11_act 28 = .ok (.iload_n 1, 1) := by decide +kernel
theorem dX11_act_29 : decode cX11_act 29 = .ok (.iaload, 1) := by decide +kernel
theorem dX11_act_30 : decode cX11_act 30 = .ok (.istore 4, 2) := by decide +kernel
theorem dX11_act_32 : decode cX11_act 32 = .ok (.iload_n 2, 1) := by decide +kernel
theorem dX11_act_33 : decode cX11_act 33 = .ok (.ifCond .ne 14, 3) := by decide +kernel
theorem dX11_act_36 : decode cX11_act 36 = .ok (.aload_n 0, 1) := by decide +kernel
theorem dX11_act_37 : decode cX11_act 37 = .ok (.iload_n 1, 1) := by decide +kernel
theorem dX11_act_38 : decode cX11_act 38 = .ok (.iload 4, 2) := by decide +kernel
theorem dX11_act_40 : decode cX11_act 40 = .ok (.iload_n 3, 1) := by decide +kernel
theorem dX11_act_41 : decode cX11_act 41 = .ok (.invokevirtual 320, 3) := by decide +kernel
theorem dX11_act_44 : decode cX11_act 44 = .ok (.goto 27, 3) := by decide +kernel
theorem dX11_act_47 : decode cX11_act 47 = .ok (.iload_n 2, 1) := by decide +kernel
theorem dX11_act_48 : decode cX11_act 48 = .ok (.iconst 1, 1) := by decide +kernel
theorem dX11_act_49 : decode cX11_act 49 = .ok (.if_icmp .ne 14, 3) := by decide +kernel
theorem dX11_act_52 : decode cX11_act 52 = .ok (.aload_n 0, 1) := by decide +kernel
theorem dX11_act_53 : decode cX11_act 53 = .ok (.iload_n 1, 1) := by decide +kernel
theorem dX11_act_54 : decode cX11_act 54 = .ok (.iload 4, 2) := by decide +kernel
theorem dX11_act_56 : decode cX11_act 56 = .ok (.iload_n 3, 1) := by decide +kernel
theorem dX11_act_57 : decode cX11_act 57 = .ok (.invokevirtual 326, 3) := by decide +kernel
theorem dX11_act_60 : decode cX11_act 60 = .ok (.goto 11, 3) := by decide +kernel
theorem dX11_act_63 : decode cX11_act 63 = .ok (.aload_n 0, 1) := by decide +kernel
theorem dX11_act_64 : decode cX11_act 64 = .ok (.iload_n 1, 1) := by decide +kernel
theorem dX11_act_65 : decode cX11_act 65 = .ok (.iload 4, 2) := by decide +kernel
theorem dX11_act_67 : decode cX11_act 67 = .ok (.iload_n 3, 1) := by decide +kernel
theorem dX11_act_68 : decode cX11_act 68 = .ok (.invokevirtual 329, 3) := by decide +kernel
theorem dX11_act_71 : decode cX11_act 71 = .ok (.ireturn, 1) := by decide +kernel
theorem dX11_trace_0 : decode cX11_trace 0 = .ok (.iload_n 1, 1) := by decide +kernel
theorem dX11_trace_1 : decode cX11_trace 1 = .ok (.iconst 0, 1) := by decide +kernel
theorem dX11_trace_2 : decode cX11_trace 2 = .ok (.bipush 20, 2) := by decide +kernel
theorem dX11_trace_4 : decode cX11_trace 4 = .ok (.aload_n 0, 1) := by decide +kernel
theorem dX11_trace_5 : decode cX11_trace 5 = .ok (.getfield 314, 3) := by decide +kernel
theorem dX11_trace_8 : decode cX11_trace 8 = .ok (.invokestatic 234, 3) := by decide +kernel
theorem dX11_trace_11 : decode cX11_trace 11 = .ok (.iconst 1, 1) := by decide +kernel
theorem dX11_trace_12 : decode cX11_trace 12 = .ok (.isub, 1) := by decide +kernel
theorem dX11_trace_13 : decode cX11_trace 13 = .ok (.invokestatic 114, 3) := by decide +kernel
theorem dX11_trace_16 : decode cX11_trace 16 = .ok (.ifCond .eq 12, 3) := by decide +kernel
theorem dX11_trace_19 : decode cX11_trace 19 = .ok (.aload_n 0, 1) := by decide +kernel
theorem dX11_trace_20 : decode cX11_trace 20 = .ok (.getfield 85, 3) := by decide +kernel
theorem dX11_trace_23 : decode cX11_trace 23 = .ok (.iload_n 1, 1) := by decide +kernel
theorem dX11_trace_24 : decode cX11_trace 24 = .ok (.iaload, 1) := by decide +kernel
theorem dX11_trace_25 : decode cX11_trace 25 = .ok (.goto 4, 3) := by decide +kernel
theorem dX11_trace_28 : decode cX11_trace 28 = .ok (.iconst (-1), 1) := by decide +kernel
theorem dX11_trace_29 : decode cX11_trace 29 = .ok (.ireturn, 1) := by decide +kernel
theorem dX11_taken_0 : decode cX11_taken 0 = .ok (.iload_n 2, 1) := by decide +kernel
theorem dX11_taken_1 : decode cX11_taken 1 = .ok (.iconst 0, 1) := by decide +kernel
theorem dX11_taken_2 : decode cX11_taken 2 = .ok (.bipush 6, 2) := by decide +kernel
theorem dX11_taken_4 : decode cX11_taken 4 = .ok (.invokestatic 114, 3) := by decide +kernel
theorem dX11_taken_7 : decode cX11_taken 7 = .ok (.ifCond .ne 6, 3) := by decide +kernel
theorem dX11_taken_10 : decode cX11_taken 10 = .ok (.bipush (-2), 2) := by decide +kernel
theorem dX11_taken_12 : decode cX11_taken 12 = .ok (.ireturn, 1) := by decide +kernel
theorem dX11_taken_13 : decode cX11_taken 13 = .ok (.aload_n 0, 1) := by decide +kernel
theorem dX11_taken_14 : decode cX11_taken 14 = .ok (.iload_n 1, 1) := by decide +kernel
theorem dX11_taken_15 : decode cX11_taken 15 = .ok (.invokevirtual 118, 3) := by decide +kernel
theorem dX11_taken_18 : decode cX11_taken 18 = .ok (.ifCond .ne 6, 3) := by decide +kernel
theorem dX11_taken_21 : decode cX11_taken 21 = .ok (.bipush (-11), 2) := by decide +kernel
theorem dX11_taken_23 : decode cX11_taken 23 = .ok (.ireturn, 1) := by decide +kernel
theorem dX11_taken_24 : decode cX11_taken 24 = .ok (.aload_n 0, 1) := by decide +kernel
theorem dX11_taken_25 : decode cX11_taken 25 = .ok (.getfield 18, 3) := by decide +kernel
theorem dX11_taken_28 : decode cX11_taken 28 = .ok (.iload_n 1, 1) := by decide +kernel
theorem dX11_taken_29 : decode cX11_taken 29 = .ok (.iaload, 1) := by decide +kernel
theorem dX11_taken_30 : decode cX11_taken 30 = .ok (.istore_n 3, 1) := by decide +kernel
theorem dX11_taken_31 : decode cX11_taken 31 = .ok (.iload_n 3, 1) := by decide +kernel
theorem dX11_taken_32 : decode cX11_taken 32 = .ok (.iload_n 2, 1) := by decide +kernel
theorem dX11_taken_33 : decode cX11_taken 33 = .ok (.if_icmp .eq 15, 3) := by decide +kernel
theorem dX11_taken_36 : decode cX11_taken 36 = .ok (.iload_n 3, 1) := by decide +kernel
theorem dX11_taken_37 : decode cX11_taken 37 = .ok (.ifCond .le 11, 3) := by decide +kernel
theorem dX11_taken_40 : decode cX11_taken 40 = .ok (.iload_n 3, 1) := by decide +kernel
theorem dX11_taken_41 : decode cX11_taken 41 = .ok (.invokestatic 323, 3) := by decide +kernel
theorem dX11_taken_44 : decode cX11_taken 44 = .ok (.istore_n 3, 1) := by decide +kernel
theorem dX11_taken_45 : decode cX11_taken 45 = .ok (.goto (-14), 3) := by decide +kernel
theorem dX11_taken_48 : decode cX11_taken 48 = .ok (.iload_n 3, 1) := by decide +kernel
theorem dX11_taken_49 : decode cX11_taken 49 = .ok (.iload_n 2, 1) := by decide +kernel
theorem dX11_taken_50 : decode cX11_taken 50 = .ok (.if_icmp .ne 12, 3) := by decide +kernel
theorem dX11_taken_53 : decode cX11_taken 53 = .ok (.aload_n 0, 1) := by decide +kernel
theorem dX11_taken_54 : decode cX11_taken 54 = .ok (.getfield 18, 3) := by decide +kernel
theorem dX11_taken_57 : decode cX11_taken 57 = .ok (.iload_n 1, 1) := by decide +kernel
theorem dX11_taken_58 : decode cX11_taken 58 = .ok (.iaload, 1) := by decide +kernel
theorem dX11_taken_59 : decode cX11_taken 59 = .ok (.goto 5, 3) := by decide +kernel
theorem dX11_taken_62 : decode cX11_taken 62 = .ok (.bipush (-12), 2) := by decide +kernel
theorem dX11_taken_64 : decode cX11_taken 64 = .ok (.ireturn, 1) := by decide +kernel
theorem dX11_count_0 : decode cX11_count 0 = .ok (.iload_n 1, 1) := by decide +kernel
theorem dX11_count_1 : decode cX11_count 1 = .ok (.tableswitch 78 0 6 #[43, 48, 53, 58, 63, 68, 73], 43) := by decide +kernel
theorem dX11_count_44 : decode cX11_count 44 = .ok (.aload_n 0, 1) := by decide +kernel
theorem dX11_count_45 : decode cX11_count 45 = .ok (.getfield 111, 3) := by decide +kernel
theorem dX11_count_48 : decode cX11_count 48 = .ok (.ireturn, 1) := by decide +kernel
theorem dX11_count_49 : decode cX11_count 49 = .ok (.aload_n 0, 1) := by decide +kernel
theorem dX11_count_50 : decode cX11_count 50 = .ok (.getfield 215, 3) := by decide +kernel
theorem dX11_count_53 : decode cX11_count 53 = .ok (.ireturn, 1) := by decide +kernel
theorem dX11_count_54 : decode cX11_count 54 = .ok (.aload_n 0, 1) := by decide +kernel
theorem dX11_count_55 : decode cX11_count 55 = .ok (.getfield 284, 3) := by decide +kernel
theorem dX11_count_58 : decode cX11_count 58 = .ok (.ireturn, 1) := by decide +kernel
theorem dX11_count_59 : decode cX11_count 59 = .ok (.aload_n 0, 1) := by decide +kernel
theorem dX11_count_60 : decode cX11_count 60 = .ok (.getfield 301, 3) := by decide +kernel
theorem dX11_count_63 : decode cX11_count 63 = .ok (.ireturn, 1) := by decide +kernel
theorem dX11_count_64 : decode cX11_count 64 = .ok (.aload_n 0, 1) := by decide +kernel
theorem dX11_count_65 : decode cX11_count 65 = .ok (.getfield 307, 3) := by decide +kernel
theorem dX11_count_68 : decode cX11_count 68 = .ok (.ireturn, 1) := by decide +kernel
theorem dX11_count_69 : decode cX11_count 69 = .ok (.aload_n 0, 1) := by decide +kernel
theorem dX11_count_70 : decode cX11_count 70 = .ok (.getfield 143, 3) := by decide +kernel
theorem dX11_count_73 : decode cX11_count 73 = .ok (.ireturn, 1) := by decide +kernel
theorem dX11_count_74 : decode cX11_count 74 = .ok (.aload_n 0, 1) := by decide +kernel
theorem dX11_count_75 : decode cX11_count 75 = .ok (.getfield 314, 3) := by decide +kernel
theorem dX11_count_78 : decode cX11_count 78 = .ok (.ireturn, 1) := by decide +kernel
theorem dX11_count_79 : decode cX11_count 79 = .ok (.bipush (-2), 2) := by decide +kernel
theorem dX11_count_81 : decode cX11_count 81 = .ok (.ireturn, 1) := by decide +kernel
theorem dX11_isTape_0 : decode cX11_isTape 0 = .ok (.iload_n 0, 1) := by decide +kernel
theorem dX11_isTape_1 : decode cX11_isTape 1 = .ok (.iconst 0, 1) := by decide +kernel
theorem dX11_isTape_2 : decode cX11_isTape 2 = .ok (.iconst 5, 1) := by decide +kernel
theorem dX11_isTape_3 : decode cX11_isTape 3 = .ok (.invokestatic 114, 3) := by decide +kernel
theorem dX11_isTape_6 : decode cX11_isTape 6 = .ok (.ireturn, 1) := by decide +kernel
theorem dX11_tape_0 : decode cX11_tape 0 = .ok (.iload_n 1, 1) := by decide +kernel
theorem dX11_tape_1 : decode cX11_tape 1 = .ok (.invokestatic 332, 3) := by decide +kernel
theorem dX11_tape_4 : decode cX11_tape 4 = .ok (.ifCond .ne 5, 3) := by decide +kernel
theorem dX11_tape_7 : decode cX11_tape 7 = .ok (.iconst (-1), 1) := by decide +kernel
theorem dX11_tape_8 : decode cX11_tape 8 = .ok (.ireturn, 1) := by decide +kernel
theorem dX11_tape_9 : decode cX11_tape 9 = .ok (.iload_n 2, 1) := by decide +kernel
theorem dX11_tape_10 : decode cX11_tape 10 = .ok (.iconst (-1), 1) := by decide +kernel
theorem dX11_tape_11 : decode cX11_tape 11 = .ok (.iconst 4, 1) := by decide +kernel
theorem dX11_tape_12 : decode cX11_tape 12 = .ok (.invokestatic 114, 3) := by decide +kernel
theorem dX11_tape_15 : decode cX11_tape 15 = .ok (.ifCond .eq 13, 3) := by decide +kernel
theorem dX11_tape_18 : decode cX11_tape 18 = .ok (.iload_n 2, 1) := by decide +kernel
theorem dX11_tape_19 : decode cX11_tape 19 = .ok (.ifCond .lt 12, 3) := by decide +kernel
theorem dX11_tape_22 : decode cX11_tape 22 = .ok (.iload_n 3, 1) := by decide +kernel
theorem dX11_tape_23 : decode cX11_tape 23 = .ok (.bipush 60, 2) := by decide +kernel
theorem dX11_tape_25 : decode cX11_tape 25 = .ok (.if_icmp .le 6, 3) := by decide +kernel
theorem dX11_tape_28 : decode cX11_tape 28 = .ok (.bipush (-2), 2) := by decide +kernel
theorem dX11_tape_30 : decode cX11_tape 30 = .ok (.ireturn, 1) := by decide +kernel
theorem dX11_tape_31 : decode cX11_tape 31 = .ok (.iload_n 2, 1) := by decide +kernel
theorem dX11_tape_32 : decode cX11_tape 32 = .ok (.ifCond .lt 10, 3) := by decide +kernel
theorem dX11_tape_35 : decode cX11_tape 35 = .ok (.iload_n 3, 1) := by decide +kernel
theorem dX11_tape_36 : decode cX11_tape 36 = .ok (.ifCond .ge 6, 3) := by decide +kernel
theorem dX11_tape_39 : decode cX11_tape 39 = .ok (.bipush (-14), 2) := by decide +kernel
theorem dX11_tape_41 : decode cX11_tape 41 = .ok (.ireturn, 1) := by decide +kernel
theorem dX11_tape_42 : decode cX11_tape 42 = .ok (.aload_n 0, 1) := by decide +kernel
theorem dX11_tape_43 : decode cX11_tape 43 = .ok (.getfield 97, 3) := by decide +kernel
theorem dX11_tape_46 : decode cX11_tape 46 = .ok (.iload_n 1, 1) := by decide +kernel
theorem dX11_tape_47 : decode cX11_tape 47 = .ok (.iload_n 2, 1) := by decide +kernel
theorem dX11_tape_48 : decode cX11_tape 48 = .ok (.iastore, 1) := by decide +kernel
theorem dX11_tape_49 : decode cX11_tape 49 = .ok (.aload_n 0, 1) := by decide +kernel
theorem dX11_tape_50 : decode cX11_tape 50 = .ok (.getfield 100, 3) := by decide +kernel
theorem dX11_tape_53 : decode cX11_tape 53 = .ok (.iload_n 1, 1) := by decide +kernel
theorem dX11_tape_54 : decode cX11_tape 54 = .ok (.iload_n 2, 1) := by decide +kernel
theorem dX11_tape_55 : decode cX11_tape 55 = .ok (.ifCond .ge 7, 3) := by decide +kernel
theorem dX11_tape_58 : decode cX11_tape 58 = .ok (.iconst 0, 1) := by decide +kernel
theorem dX11_tape_59 : decode cX11_tape 59 = .ok (.goto 4, 3) := by decide +kernel
theorem dX11_tape_62 : decode cX11_tape 62 = .ok (.iload_n 3, 1) := by decide +kernel
theorem dX11_tape_63 : decode cX11_tape 63 = .ok (.iastore, 1) := by decide +kernel
theorem dX11_tape_64 : decode cX11_tape 64 = .ok (.iconst 0, 1) := by decide +kernel
theorem dX11_tape_65 : decode cX11_tape 65 = .ok (.istore 4, 2) := by decide +kernel
theorem dX11_tape_67 : decode cX11_tape 67 = .ok (.iload 4, 2) := by decide +kernel
theorem dX11_tape_69 : decode cX11_tape 69 = .ok (.bipush 60, 2) := by decide +kernel
theorem dX11_tape_71 : decode cX11_tape 71 = .ok (.if_icmp .ge 22, 3) := by decide +kernel
theorem dX11_tape_74 : decode cX11_tape 74 = .ok (.aload_n 0, 1) := by decide +kernel
theorem dX11_tape_75 : decode cX11_tape 75 = .ok (.getfield 103, 3) := by decide +kernel
theorem dX11_tape_78 : decode cX11_tape 78 = .ok (.bipush 60, 2) := by decide +kernel
theorem dX11_tape_80 : decode cX11_tape 80 = .ok (.iload_n 1, 1) := by decide +kernel
theorem dX11_tape_81 : decode cX11_tape 81 = .ok (.imul, 1) := by decide +kernel
theorem dX11_tape_82 : decode cX11_tape 82 = .ok (.iload 4, 2) := by decide +kernel
theorem dX11_tape_84 : decode cX11_tape 84 = .ok (.iadd, 1) := by decide +kernel
theorem dX11_tape_85 : decode cX11_tape 85 = .ok (.lconst 0, 1) := by decide +kernel
theorem dX11_tape_86 : decode cX11_tape 86 = .ok (.lastore, 1) := by decide +kernel
theorem dX11_tape_87 : decode cX11_tape 87 = .ok (.iinc 4 1, 3) := by decide +kernel
theorem dX11_tape_90 : decode cX11_tape 90 = .ok (.goto (-23), 3) := by decide +kernel
theorem dX11_tape_93 : decode cX11_tape 93 = .ok (.iconst 1, 1) := by decide +kernel
theorem dX11_tape_94 : decode cX11_tape 94 = .ok (.ireturn, 1) := by decide +kernel
theorem dX11_kept_0 : decode cX11_kept 0 = .ok (.iload_n 0, 1) := by decide +kernel
theorem dX11_kept_1 : decode cX11_kept 1 = .ok (.tableswitch 47 0 3 #[31, 36, 41, 45], 31) := by decide +kernel
theorem dX11_kept_32 : decode cX11_kept 32 = .ok (.lload_n 1, 1) := by decide +kernel
theorem dX11_kept_33 : decode cX11_kept 33 = .ok (.l2i, 1) := by decide +kernel
theorem dX11_kept_34 : decode cX11_kept 34 = .ok (.i2b, 1) := by decide +kernel
theorem dX11_kept_35 : decode cX11_kept 35 = .ok (.i2l, 1) := by decide +kernel
theorem dX11_kept_36 : decode cX11_kept 36 = .ok (.lreturn, 1) := by decide +kernel
theorem dX11_kept_37 : decode cX11_kept 37 = .ok (.lload_n 1, 1) := by decide +kernel
theorem dX11_kept_38 : decode cX11_kept 38 = .ok (.l2i, 1) := by decide +kernel
theorem dX11_kept_39 : decode cX11_kept 39 = .ok (.i2s, 1) := by decide +kernel
theorem dX11_kept_40 : decode cX11_kept 40 = .ok (.i2l, 1) := by decide +kernel
theorem dX11_kept_41 : decode cX11_kept 41 = .ok (.lreturn, 1) := by decide +kernel
theorem dX11_kept_42 : decode cX11_kept 42 = .ok (.lload_n 1, 1) := by decide +kernel
theorem dX11_kept_43 : decode cX11_kept 43 = .ok (.l2i, 1) := by decide +kernel
theorem dX11_kept_44 : decode cX11_kept 44 = .ok (.i2l, 1) := by decide +kernel
theorem dX11_kept_45 : decode cX11_kept 45 = .ok (.lreturn, 1) := by decide +kernel
theorem dX11_kept_46 : decode cX11_kept 46 = .ok (.lload_n 1, 1) := by decide +kernel
theorem dX11_kept_47 : decode cX11_kept 47 = .ok (.lreturn, 1) := by decide +kernel
theorem dX11_kept_48 : decode cX11_kept 48 = .ok (.lload_n 1, 1) := by decide +kernel
theorem dX11_kept_49 : decode cX11_kept 49 = .ok (.lconst 0, 1) := by decide +kernel
theorem dX11_kept_50 : decode cX11_kept 50 = .ok (.lcmp, 1) := by decide +kernel
theorem dX11_kept_51 : decode cX11_kept 51 = .ok (.ifCond .eq 7, 3) := by decide +kernel
theorem dX11_kept_54 : decode cX11_kept 54 = .ok (.lconst 1, 1) := by decide +kernel
theorem dX11_kept_55 : decode cX11_kept 55 = .ok (.goto 4, 3) := by decide +kernel
theorem dX11_kept_58 : decode cX11_kept 58 = .ok (.lconst 0, 1) := by decide +kernel
theorem dX11_kept_59 : decode cX11_kept 59 = .ok (.lreturn, 1) := by decide +kernel
theorem dX11_item_0 : decode cX11_item 0 = .ok (.iload_n 1, 1) := by decide +kernel
theorem dX11_item_1 : decode cX11_item 1 = .ok (.invokestatic 332, 3) := by decide +kernel
theorem dX11_item_4 : decode cX11_item 4 = .ok (.ifCond .ne 5, 3) := by decide +kernel
theorem dX11_item_7 : decode cX11_item 7 = .ok (.iconst (-1), 1) := by decide +kernel
theorem dX11_item_8 : decode cX11_item 8 = .ok (.ireturn, 1) := by decide +kernel
theorem dX11_item_9 : decode cX11_item 9 = .ok (.aload_n 0, 1) := by decide +kernel
theorem dX11_item_10 : decode cX11_item 10 = .ok (.getfield 97, 3) := by decide +kernel
theorem dX11_item_13 : decode cX11_item 13 = .ok (.iload_n 1, 1) := by decide +kernel
theorem dX11_item_14 : decode cX11_item 14 = .ok (.iaload, 1) := by decide +kernel
theorem dX11_item_15 : decode cX11_item 15 = .ok (.ifCond .ge 6, 3) := by decide +kernel
theorem dX11_item_18 : decode cX11_item 18 = .ok (.bipush (-11), 2) := by decide +kernel
theorem dX11_item_20 : decode cX11_item 20 = .ok (.ireturn, 1) := by decide +kernel
theorem dX11_item_21 : decode cX11_item 21 = .ok (.iload_n 2, 1) := by decide +kernel
theorem dX11_item_22 : decode cX11_item 22 = .ok (.iconst 0, 1) := by decide +kernel
theorem dX11_item_23 : decode cX11_item 23 = .ok (.aload_n 0, 1) := by decide +kernel
theorem dX11_item_24 : decode cX11_item 24 = .ok (.getfield 100, 3) := by decide +kernel
theorem dX11_item_27 : decode cX11_item 27 = .ok (.iload_n 1, 1) := by decide +kernel
theorem dX11_item_28 : decode cX11_item 28 = .ok (.iaload, 1) := by decide +kernel
theorem dX11_item_29 : decode cX11_item 29 = .ok (.iconst 1, 1) := by decide +kernel
theorem dX11_item_30 : decode cX11_item 30 = .ok (.isub, 1) := by decide +kernel
theorem dX11_item_31 : decode cX11_item 31 = .ok (.invokestatic 114, 3) := by decide +kernel
theorem dX11_item_34 : decode cX11_item 34 = .ok (.ifCond .ne 6, 3) := by decide +kernel
theorem dX11_item_37 : decode cX11_item 37 = .ok (.bipush (-13), 2) := by decide +kernel
theorem dX11_item_39 : decode cX11_item 39 = .ok (.ireturn, 1) := by decide +kernel
theorem dX11_item_40 : decode cX11_item 40 = .ok (.aload_n 0, 1) := by decide +kernel
theorem dX11_item_41 : decode cX11_item 41 = .ok (.getfield 103, 3) := by decide +kernel
theorem dX11_item_44 : decode cX11_item 44 = .ok (.bipush 60, 2) := by decide +kernel
theorem dX11_item_46 : decode cX11_item 46 = .ok (.iload_n 1, 1) := by decide +kernel
theorem dX11_item_47 : decode cX11_item 47 = .ok (.imul, 1) := by decide +kernel
theorem dX11_item_48 : decode cX11_item 48 = .ok (.iload_n 2, 1) := by decide +kernel
theorem dX11_item_49 : decode cX11_item 49 = .ok (.iadd, 1) := by decide +kernel
theorem dX11_item_50 : decode cX11_item 50 = .ok (.aload_n 0, 1) := by decide +kernel
theorem dX11_item_51 : decode cX11_item 51 = .ok (.getfield 97, 3) := by decide +kernel
theorem dX11_item_54 : decode cX11_item 54 = .ok (.iload_n 1, 1) := by decide +kernel
theorem dX11_item_55 : decode cX11_item 55 = .ok (.iaload, 1) := by decide +kernel
theorem dX11_item_56 : decode cX11_item 56 = .ok (.lload_n 3, 1) := by decide +kernel
theorem dX11_item_57 : decode cX11_item 57 = .ok (.invokestatic 335, 3) := by decide +kernel
theorem dX11_item_60 : decode cX11_item 60 = .ok (.lastore, 1) := by decide +kernel
theorem dX11_item_61 : decode cX11_item 61 = .ok (.iconst 1, 1) := by decide +kernel
theorem dX11_item_62 : decode cX11_item 62 = .ok (.ireturn, 1) := by decide +kernel
theorem dX11_read_0 : decode cX11_read 0 = .ok (.iload_n 1, 1) := by decide +kernel
theorem dX11_read_1 : decode cX11_read 1 = .ok (.invokestatic 332, 3) := by decide +kernel
theorem dX11_read_4 : decode cX11_read 4 = .ok (.ifCond .eq 42, 3) := by decide +kernel
theorem dX11_read_7 : decode cX11_read 7 = .ok (.aload_n 0, 1) := by decide +kernel
theorem dX11_read_8 : decode cX11_read 8 = .ok (.getfield 97, 3) := by decide +kernel
theorem dX11_read_11 : decode cX11_read 11 = .ok (.iload_n 1, 1) := by decide +kernel
theorem dX11_read_12 : decode cX11_read 12 = .ok (.iaload, 1) := by decide +kernel
theorem dX11_read_13 : decode cX11_read 13 = .ok (.ifCond .lt 33, 3) := by decide +kernel
theorem dX11_read_16 : decode cX11_read 16 = .ok (.iload_n 2, 1) := by decide +kernel
theorem dX11_read_17 : decode cX11_read 17 = .ok (.iconst 0, 1) := by decide +kernel
theorem dX11_read_18 : decode cX11_read 18 = .ok (.aload_n 0, 1) := by decide +kernel
theorem dX11_read_19 : decode cX11_read 19 = .ok (.getfield 100, 3) := by decide +kernel
theorem dX11_read_22 : decode cX11_read 22 = .ok (.iload_n 1, 1) := by decide +kernel
theorem dX11_read_23 : decode cX11_read 23 = .ok (.iaload, 1) := by decide +kernel
theorem dX11_read_24 : decode cX11_read 24 = .ok (.iconst 1, 1) := by decide +kernel
theorem dX11_read_25 : decode cX11_read 25 = .ok (.isub, 1) := by decide +kernel
theorem dX11_read_26 : decode cX11_read 26 = .ok (.invokestatic 114, 3) := by decide +kernel
theorem dX11_read_29 : decode cX11_read 29 = .ok (.ifCond .eq 17, 3) := by decide +kernel
theorem dX11_read_32 : decode cX11_read 32 = .ok (.aload_n 0, 1) := by decide +kernel
theorem dX11_read_33 : decode cX11_read 33 = .ok (.getfield 103, 3) := by decide +kernel
theorem dX11_read_36 : decode cX11_read 36 = .ok (.bipush 60, 2) := by decide +kernel
theorem dX11_read_38 : decode cX11_read 38 = .ok (.iload_n 1, 1) := by decide +kernel
theorem dX11_read_39 : decode cX11_read 39 = .ok (.imul, 1) := by decide +kernel
theorem dX11_read_40 : decode cX11_read 40 = .ok (.iload_n 2, 1) := by decide +kernel
theorem dX11_read_41 : decode cX11_read 41 = .ok (.iadd, 1) := by decide +kernel
theorem dX11_read_42 : decode cX11_read 42 = .ok (.laload, 1) := by decide +kernel
theorem dX11_read_43 : decode cX11_read 43 = .ok (.goto 6, 3) := by decide +kernel
theorem dX11_read_46 : decode cX11_read 46 = .ok (.ldc2_w 290, 3) := by decide +kernel
theorem dX11_read_49 : decode cX11_read 49 = .ok (.lreturn, 1) := by decide +kernel
theorem dX11_shift_0 : decode cX11_shift 0 = .ok (.iload_n 1, 1) := by decide +kernel
theorem dX11_shift_1 : decode cX11_shift 1 = .ok (.invokestatic 332, 3) := by decide +kernel
theorem dX11_shift_4 : decode cX11_shift 4 = .ok (.ifCond .eq 10, 3) := by decide +kernel
theorem dX11_shift_7 : decode cX11_shift 7 = .ok (.iload_n 3, 1) := by decide +kernel
theorem dX11_shift_8 : decode cX11_shift 8 = .ok (.invokestatic 332, 3) := by decide +kernel
theorem dX11_shift_11 : decode cX11_shift 11 = .ok (.ifCond .ne 5, 3) := by decide +kernel
theorem dX11_shift_14 : decode cX11_shift 14 = .ok (.iconst (-1), 1) := by decide +kernel
theorem dX11_shift_15 : decode cX11_shift 15 = .ok (.ireturn, 1) := by decide +kernel
theorem dX11_shift_16 : decode cX11_shift 16 = .ok (.aload_n 0, 1) := by decide +kernel
theorem dX11_shift_17 : decode cX11_shift 17 = .ok (.getfield 97, 3) := by decide +kernel
theorem dX11_shift_20 : decode cX11_shift 20 = .ok (.iload_n 1, 1) := by decide +kernel
theorem dX11_shift_21 : decode cX11_shift 21 = .ok (.iaload, 1) := by decide +kernel
theorem dX11_shift_22 : decode cX11_shift 22 = .ok (.ifCond .lt 12, 3) := by decide +kernel
theorem dX11_shift_25 : decode cX11_shift 25 = .ok (.aload_n 0, 1) := by decide +kernel
theorem dX11_shift_26 : decode cX11_shift 26 = .ok (.getfield 97, 3) := by decide +kernel
theorem dX11_shift_29 : decode cX11_shift 29 = .ok (.iload_n 3, 1) := by decide +kernel
theorem dX11_shift_30 : decode cX11_shift 30 = .ok (.iaload, 1) := by decide +kernel
theorem dX11_shift_31 : decode cX11_shift 31 = .ok (.ifCond .ge 6, 3) := by decide +kernel
theorem dX11_shift_34 : decode cX11_shift 34 = .ok (.bipush (-11), 2) := by decide +kernel
theorem dX11_shift_36 : decode cX11_shift 36 = .ok (.ireturn, 1) := by decide +kernel
theorem dX11_shift_37 : decode cX11_shift 37 = .ok (.aload_n 0, 1) := by decide +kernel
theorem dX11_shift_38 : decode cX11_shift 38 = .ok (.getfield 97, 3) := by decide +kernel
theorem dX11_shift_41 : decode cX11_shift 41 = .ok (.iload_n 1, 1) := by decide +kernel
theorem dX11_shift_42 : decode cX11_shift 42 = .ok (.iaload, 1) := by decide +kernel
theorem dX11_shift_43 : decode cX11_shift 43 = .ok (.aload_n 0, 1) := by decide +kernel
theorem dX11_shift_44 : decode cX11_shift 44 = .ok (.getfield 97, 3) := by decide +kernel
theorem dX11_shift_47 : decode cX11_shift 47 = .ok (.iload_n 3, 1) := by decide +kernel
theorem dX11_shift_48 : decode cX11_shift 48 = .ok (.iaload, 1) := by decide +kernel
theorem dX11_shift_49 : decode cX11_shift 49 = .ok (.if_icmp .eq 6, 3) := by decide +kernel
theorem dX11_shift_52 : decode cX11_shift 52 = .ok (.bipush (-12), 2) := by decide +kernel
theorem dX11_shift_54 : decode cX11_shift 54 = .ok (.ireturn, 1) := by decide +kernel
theorem dX11_shift_55 : decode cX11_shift 55 = .ok (.iload 5, 2) := by decide +kernel
theorem dX11_shift_57 : decode cX11_shift 57 = .ok (.ifCond .lt 47, 3) := by decide +kernel
theorem dX11_shift_60 : decode cX11_shift 60 = .ok (.iload_n 2, 1) := by decide +kernel
theorem dX11_shift_61 : decode cX11_shift 61 = .ok (.ifCond .lt 43, 3) := by decide +kernel
theorem dX11_shift_64 : decode cX11_shift 64 = .ok (.iload 4, 2) := by decide +kernel
theorem dX11_shift_66 : decode cX11_shift 66 = .ok (.ifCond .lt 38, 3) := by decide +kernel
theorem dX11_shift_69 : decode cX11_shift 69 = .ok (.iload_n 2, 1) := by decide +kernel
theorem dX11_shift_70 : decode cX11_shift 70 = .ok (.i2l, 1) := by decide +kernel
theorem dX11_shift_71 : decode cX11_shift 71 = .ok (.iload 5, 2) := by decide +kernel
theorem dX11_shift_73 : decode cX11_shift 73 = .ok (.i2l, 1) := by decide +kernel
theorem dX11_shift_74 : decode cX11_shift 74 = .ok (.ladd, 1) := by decide +kernel
theorem dX11_shift_75 : decode cX11_shift 75 = .ok (.aload_n 0, 1) := by decide +kernel
theorem dX11_shift_76 : decode cX11_shift 76 = .ok (.getfield 100, 3) := by decide +kernel
theorem dX11_shift_79 : decode cX11_shift 79 = .ok (.iload_n 1, 1) := by decide +kernel
theorem dX11_shift_80 : decode cX11_shift 80 = .ok (.iaload, 1) := by decide +kernel
theorem dX11_shift_81 : decode cX11_shift 81 = .ok (.i2l, 1) := by decide +kernel
theorem dX11_shift_82 : decode cX11_shift 82 = .ok (.lcmp, 1) := by decide +kernel
theorem dX11_shift_83 : decode cX11_shift 83 = .ok (.ifCond .gt 21, 3) := by decide +kernel
theorem dX11_shift_86 : decode cX11_shift 86 = .ok (.iload 4, 2) := by decide +kernel
theorem dX11_shift_88 : decode cX11_shift 88 = .ok (.i2l, 1) := by decide +kernel
theorem dX11_shift_89 : decode cX11_shift 89 = .ok (.iload 5, 2) := by decide +kernel
theorem dX11_shift_91 : decode cX11_shift 91 = .ok (.i2l, 1) := by decide +kernel
theorem dX11_shift_92 : decode cX11_shift 92 = .ok (.ladd, 1) := by decide +kernel
theorem dX11_shift_93 : decode cX11_shift 93 = .ok (.aload_n 0, 1) := by decide +kernel
theorem dX11_shift_94 : decode cX11_shift 94 = .ok (.getfield 100, 3) := by decide +kernel
theorem dX11_shift_97 : decode cX11_shift 97 = .ok (.iload_n 3, 1) := by decide +kernel
theorem dX11_shift_98 : decode cX11_shift 98 = .ok (.iaload, 1) := by decide +kernel
theorem dX11_shift_99 : decode cX11_shift 99 = .ok (.i2l, 1) := by decide +kernel
theorem dX11_shift_100 : decode cX11_shift 100 = .ok (.lcmp, 1) := by decide +kernel
theorem dX11_shift_101 : decode cX11_shift 101 = .ok (.ifCond .le 6, 3) := by decide +kernel
theorem dX11_shift_104 : decode cX11_shift 104 = .ok (.bipush (-13), 2) := by decide +kernel
theorem dX11_shift_106 : decode cX11_shift 106 = .ok (.ireturn, 1) := by decide +kernel
theorem dX11_shift_107 : decode cX11_shift 107 = .ok (.iload_n 1, 1) := by decide +kernel
theorem dX11_shift_108 : decode cX11_shift 108 = .ok (.iload_n 3, 1) := by decide +kernel
theorem dX11_shift_109 : decode cX11_shift 109 = .ok (.if_icmp .ne 58, 3) := by decide +kernel
theorem dX11_shift_112 : decode cX11_shift 112 = .ok (.iload_n 2, 1) := by decide +kernel
theorem dX11_shift_113 : decode cX11_shift 113 = .ok (.iload 4, 2) := by decide +kernel
theorem dX11_shift_115 : decode cX11_shift 115 = .ok (.if_icmp .ge 52, 3) := by decide +kernel
theorem dX11_shift_118 : decode cX11_shift 118 = .ok (.iload 5, 2) := by decide +kernel
theorem dX11_shift_120 : decode cX11_shift 120 = .ok (.iconst 1, 1) := by decide +kernel
theorem dX11_shift_121 : decode cX11_shift 121 = .ok (.isub, 1) := by decide +kernel
theorem dX11_shift_122 : decode cX11_shift 122 = .ok (.istore 6, 2) := by decide +kernel
theorem dX11_shift_124 : decode cX11_shift 124 = .ok (.iload 6, 2) := by decide +kernel
theorem dX11_shift_126 : decode cX11_shift 126 = .ok (.ifCond .lt 38, 3) := by decide +kernel
theorem dX11_shift_129 : decode cX11_shift 129 = .ok (.aload_n 0, 1) := by decide +kernel
theorem dX11_shift_130 : decode cX11_shift 130 = .ok (.getfield 103, 3) := by decide +kernel
theorem dX11_shift_133 : decode cX11_shift 133 = .ok (.bipush 60, 2) := by decide +kernel
theorem dX11_shift_135 : decode cX11_shift 135 = .ok (.iload_n 3, 1) := by decide +kernel
theorem dX11_shift_136 : decode cX11_shift 136 = .ok (.imul, 1) := by decide +kernel
theorem dX11_shift_137 : decode cX11_shift 137 = .ok (.iload 4, 2) := by decide +kernel
theorem dX11_shift_139 : decode cX11_shift 139 = .ok (.iadd, 1) := by decide +kernel
theorem dX11_shift_140 : decode cX11_shift 140 = .ok (.iload 6, 2) := by decide +kernel
theorem dX11_shift_142 : decode cX11_shift 142 = .ok (.iadd, 1) := by decide +kernel
theorem dX11_shift_143 : decode cX11_shift 143 = .ok (.aload_n 0, 1) := by decide +kernel
theorem dX11_shift_144 : decode cX11_shift 144 = .ok (.getfield 103, 3) := by decide +kernel
theorem dX11_shift_147 : decode cX11_shift 147 = .ok (.bipush 60, 2) := by decide +kernel
theorem dX11_shift_149 : decode cX11_shift 149 = .ok (.iload_n 1, 1) := by decide +kernel
theorem dX11_shift_150 : decode cX11_shift 150 = .ok (.imul, 1) := by decide +kernel
theorem dX11_shift_151 : decode cX11_shift 151 = .ok (.iload_n 2, 1) := by decide +kernel
theorem dX11_shift_152 : decode cX11_shift 152 = .ok (.iadd, 1) := by decide +kernel
theorem dX11_shift_153 : decode cX11_shift 153 = .ok (.iload 6, 2) := by decide +kernel
theorem dX11_shift_155 : decode cX11_shift 155 = .ok (.iadd, 1) := by decide +kernel
theorem dX11_shift_156 : decode cX11_shift 156 = .ok (.laload, 1) := by decide +kernel
theorem dX11_shift_157 : decode cX11_shift 157 = .ok (.lastore, 1) := by decide +kernel
theorem dX11_shift_158 : decode cX11_shift 158 = .ok (.iinc 6 (-1), 3) := by decide +kernel
theorem dX11_shift_161 : decode cX11_shift 161 = .ok (.goto (-37), 3) := by decide +kernel
theorem dX11_shift_164 : decode cX11_shift 164 = .ok (.goto 48, 3) := by decide +kernel
theorem dX11_shift_167 : decode cX11_shift 167 = .ok (.iconst 0, 1) := by decide +kernel
theorem dX11_shift_168 : decode cX11_shift 168 = .ok (.istore 6, 2) := by decide +kernel
theorem dX11_shift_170 : decode cX11_shift 170 = .ok (.iload 6, 2) := by decide +kernel
theorem dX11_shift_172 : decode cX11_shift 172 = .ok (.iload 5, 2) := by decide +kernel
theorem dX11_shift_174 : decode cX11_shift 174 = .ok (.if_icmp .ge 38, 3) := by decide +kernel
theorem dX11_shift_177 : decode cX11_shift 177 = .ok (.aload_n 0, 1) := by decide +kernel
theorem dX11_shift_178 : decode cX11_shift 178 = .ok (.getfield 103, 3) := by decide +kernel
theorem dX11_shift_181 : decode cX11_shift 181 = .ok (.bipush 60, 2) := by decide +kernel
theorem dX11_shift_183 : decode cX11_shift 183 = .ok (.iload_n 3, 1) := by decide +kernel
theorem dX11_shift_184 : decode cX11_shift 184 = .ok (.imul, 1) := by decide +kernel
theorem dX11_shift_185 : decode cX11_shift 185 = .ok (.iload 4, 2) := by decide +kernel
theorem dX11_shift_187 : decode cX11_shift 187 = .ok (.iadd, 1) := by decide +kernel
theorem dX11_shift_188 : decode cX11_shift 188 = .ok (.iload 6, 2) := by decide +kernel
theorem dX11_shift_190 : decode cX11_shift 190 = .ok (.iadd, 1) := by decide +kernel
theorem dX11_shift_191 : decode cX11_shift 191 = .ok (.aload_n 0, 1) := by decide +kernel
theorem dX11_shift_192 : decode cX11_shift 192 = .ok (.getfield 103, 3) := by decide +kernel
theorem dX11_shift_195 : decode cX11_shift 195 = .ok (.bipush 60, 2) := by decide +kernel
theorem dX11_shift_197 : decode cX11_shift 197 = .ok (.iload_n 1, 1) := by decide +kernel
theorem dX11_shift_198 : decode cX11_shift 198 = .ok (.imul, 1) := by decide +kernel
theorem dX11_shift_199 : decode cX11_shift 199 = .ok (.iload_n 2, 1) := by decide +kernel
theorem dX11_shift_200 : decode cX11_shift 200 = .ok (.iadd, 1) := by decide +kernel
theorem dX11_shift_201 : decode cX11_shift 201 = .ok (.iload 6, 2) := by decide +kernel
theorem dX11_shift_203 : decode cX11_shift 203 = .ok (.iadd, 1) := by decide +kernel
theorem dX11_shift_204 : decode cX11_shift 204 = .ok (.laload, 1) := by decide +kernel
theorem dX11_shift_205 : decode cX11_shift 205 = .ok (.lastore, 1) := by decide +kernel
theorem dX11_shift_206 : decode cX11_shift 206 = .ok (.iinc 6 1, 3) := by decide +kernel
theorem dX11_shift_209 : decode cX11_shift 209 = .ok (.goto (-39), 3) := by decide +kernel
theorem dX11_shift_212 : decode cX11_shift 212 = .ok (.iload 5, 2) := by decide +kernel
theorem dX11_shift_214 : decode cX11_shift 214 = .ok (.ireturn, 1) := by decide +kernel
end
section
theorem dX10_init_0 : decode cX10_init 0 = .ok (.aload_n 0, 1) := by decide +kernel
theorem dX10_init_1 : decode cX10_init 1 = .ok (.invokespecial 5, 3) := by decide +kernel
theorem dX10_init_4 : decode cX10_init 4 = .ok (.aload_n 0, 1) := by decide +kernel
theorem dX10_init_5 : decode cX10_init 5 = .ok (.new 11, 3) := by decide +kernel
theorem dX10_init_8 : decode cX10_init 8 = .ok (.dup, 1) := by decide +kernel
theorem dX10_init_9 : decode cX10_init 9 = .ok (.invokespecial 13, 3) := by decide +kernel
theorem dX10_init_12 : decode cX10_init 12 = .ok (.putfield 14, 3) := by decide +kernel
theorem dX10_init_15 : decode cX10_init 15 = .ok (.aload_n 0, 1) := by decide +kernel
theorem dX10_init_16 : decode cX10_init 16 = .ok (.new 18, 3) := by decide +kernel
theorem dX10_init_19 : decode cX10_init 19 = .ok (.dup, 1) := by decide +kernel
theorem dX10_init_20 : decode cX10_init 20 = .ok (.aload_n 0, 1) := by decide +kernel
theorem dX10_init_21 : decode cX10_init 21 = .ok (.getfield 14, 3) := by decide +kernel
theorem dX10_init_24 : decode cX10_init 24 = .ok (.invokespecial 20, 3) := by decide +kernel
theorem dX10_init_27 : decode cX10_init 27 = .ok (.putfield 23, 3) := by decide +kernel
theorem dX10_init_30 : decode cX10_init 30 = .ok (.aload_n 0, 1) := by decide +kernel
theorem dX10_init_31 : decode cX10_init 31 = .ok (.new 18, 3) := by decide +kernel
theorem dX10_init_34 : decode cX10_init 34 = .ok (.dup, 1) := by decide +kernel
theorem dX10_init_35 : decode cX10_init 35 = .ok (.aload_n 0, 1) := by decide +kernel
theorem dX10_init_36 : decode cX10_init 36 = .ok (.getfield 14, 3) := by decide +kernel
theorem dX10_init_39 : decode cX10_init 39 = .ok (.invokespecial 20, 3) := by decide +kernel
theorem dX10_init_42 : decode cX10_init 42 = .ok (.putfield 27, 3) := by decide +kernel
theorem dX10_init_45 : decode cX10_init 45 = .ok (.aload_n 0, 1) := by decide +kernel
theorem dX10_init_46 : decode cX10_init 46 = .ok (.new 18, 3) := by decide +kernel
theorem dX10_init_49 : decode cX10_init 49 = .ok (.dup, 1) := by decide +kernel
theorem dX10_init_50 : decode cX10_init 50 = .ok (.aload_n 0, 1) := by decide +kernel
theorem dX10_init_51 : decode cX10_init 51 = .ok (.getfield 14, 3) := by decide +kernel
theorem dX10_init_54 : decode cX10_init 54 = .ok (.invokespecial 20, 3) := by decide +kernel
theorem dX10_init_57 : decode cX10_init 57 = .ok (.putfield 30, 3) := by decide +kernel
theorem dX10_init_60 : decode cX10_init 60 = .ok (.aload_n 0, 1) := by decide +kernel
theorem dX10_init_61 : decode cX10_init 61 = .ok (.new 33, 3) := by decide +kernel
theorem dX10_init_64 : decode cX10_init 64 = .ok (.dup, 1) := by decide +kernel
theorem dX10_init_65 : decode cX10_init 65 = .ok (.invokespecial 35, 3) := by decide +kernel
theorem dX10_init_68 : decode cX10_init 68 = .ok (.putfield 36, 3) := by decide +kernel
theorem dX10_init_71 : decode cX10_init 71 = .ok (.aload_n 0, 1) := by decide +kernel
theorem dX10_init_72 : decode cX10_init 72 = .ok (.bipush 6, 2) := by decide +kernel
theorem dX10_init_74 : decode cX10_init 74 = .ok (.anewarray 11, 3) := by decide +kernel
theorem dX10_init_77 : decode cX10_init 77 = .ok (.putfield 40, 3) := by decide +kernel
theorem dX10_init_80 : decode cX10_init 80 = .ok (.aload_n 0, 1) := by decide +kernel
theorem dX10_init_81 : decode cX10_init 81 = .ok (.bipush 6, 2) := by decide +kernel
theorem dX10_init_83 : decode cX10_init 83 = .ok (.anewarray 44, 3) := by decide +kernel
theorem dX10_init_86 : decode cX10_init 86 = .ok (.putfield 46, 3) := by decide +kernel
theorem dX10_init_89 : decode cX10_init 89 = .ok (.aload_n 0, 1) := by decide +kernel
theorem dX10_init_90 : decode cX10_init 90 = .ok (.new 50, 3) := by decide +kernel
theorem dX10_init_93 : decode cX10_init 93 = .ok (.dup, 1) := by decide +kernel
theorem dX10_init_94 : decode cX10_init 94 = .ok (.invokespecial 52, 3) := by decide +kernel
theorem dX10_init_97 : decode cX10_init 97 = .ok (.putfield 53, 3) := by decide +kernel
theorem dX10_init_100 : decode cX10_init 100 = .ok (.aload_n 0, 1) := by decide +kernel
theorem dX10_init_101 : decode cX10_init 101 = .ok (.new 57, 3) := by decide +kernel
theorem dX10_init_104 : decode cX10_init 104 = .ok (.dup, 1) := by decide +kernel
theorem dX10_init_105 : decode cX10_init 105 = .ok (.invokespecial 59, 3) := by decide +kernel
theorem dX10_init_108 : decode cX10_init 108 = .ok (.putfield 60, 3) := by decide +kernel
theorem dX10_init_111 : decode cX10_init 111 = .ok (.aload_n 0, 1) := by decide +kernel
theorem dX10_init_112 : decode cX10_init 112 = .ok (.new 64, 3) := by decide +kernel
theorem dX10_init_115 : decode cX10_init 115 = .ok (.dup, 1) := by decide +kernel
theorem dX10_init_116 : decode cX10_init 116 = .ok (.invokespecial 66, 3) := by decide +kernel
theorem dX10_init_119 : decode cX10_init 119 = .ok (.putfield 67, 3) := by decide +kernel
theorem dX10_init_122 : decode cX10_init 122 = .ok (.aload_n 0, 1) := by decide +kernel
theorem dX10_init_123 : decode cX10_init 123 = .ok (.bipush 6, 2) := by decide +kernel
theorem dX10_init_125 : decode cX10_init 125 = .ok (.anewarray 71, 3) := by decide +kernel
theorem dX10_init_128 : decode cX10_init 128 = .ok (.putfield 73, 3) := by decide +kernel
theorem dX10_init_131 : decode cX10_init 131 = .ok (.iconst 0, 1) := by decide +kernel
theorem dX10_init_132 : decode cX10_init 132 = .ok (.istore_n 1, 1) := by decide +kernel
theorem dX10_init_133 : decode cX10_init 133 = .ok (.iload_n 1, 1) := by decide +kernel
theorem dX10_init_134 : decode cX10_init 134 = .ok (.bipush 6, 2) := by decide +kernel
theorem dX10_init_136 : decode cX10_init 136 = .ok (.if_icmp .ge 22, 3) := by decide +kernel
theorem dX10_init_139 : decode cX10_init 139 = .ok (.aload_n 0, 1) := by decide +kernel
theorem dX10_init_140 : decode cX10_init 140 = .ok (.getfield 40, 3) := by decide +kernel
theorem dX10_init_143 : decode cX10_init 143 = .ok (.iload_n 1, 1) := by decide +kernel
theorem dX10_init_144 : decode cX10_init 144 = .ok (.new 11, 3) := by decide +kernel
theorem dX10_init_147 : decode cX10_init 147 = .ok (.dup, 1) := by decide +kernel
theorem dX10_init_148 : decode cX10_init 148 = .ok (.invokespecial 13, 3) := by decide +kernel
theorem dX10_init_151 : decode cX10_init 151 = .ok (.aastore, 1) := by decide +kernel
theorem dX10_init_152 : decode cX10_init 152 = .ok (.iinc 1 1, 3) := by decide +kernel
theorem dX10_init_155 : decode cX10_init 155 = .ok (.goto (-22), 3) := by decide +kernel
theorem dX10_init_158 : decode cX10_init 158 = .ok (.iconst 0, 1) := by decide +kernel
theorem dX10_init_159 : decode cX10_init 159 = .ok (.istore_n 1, 1) := by decide +kernel
theorem dX10_init_160 : decode cX10_init 160 = .ok (.iload_n 1, 1) := by decide +kernel
theorem dX10_init_161 : decode cX10_init 161 = .ok (.bipush 6, 2) := by decide +kernel
theorem dX10_init_163 : decode cX10_init 163 = .ok (.if_icmp .ge 35, 3) := by decide +kernel
theorem dX10_init_166 : decode cX10_init 166 = .ok (.aload_n 0, 1) := by decide +kernel
theorem dX10_init_167 : decode cX10_init 167 = .ok (.getfield 46, 3) := by decide +kernel
theorem dX10_init_170 : decode cX10_init 170 = .ok (.iload_n 1, 1) := by decide +kernel
theorem dX10_init_171 : decode cX10_init 171 = .ok (.new 44, 3) := by decide +kernel
theorem dX10_init_174 : decode cX10_init 174 = .ok (.dup, 1) := by decide +kernel
theorem dX10_init_175 : decode cX10_init 175 = .ok (.aload_n 0, 1) := by decide +kernel
theorem dX10_init_176 : decode cX10_init 176 = .ok (.getfield 23, 3) := by decide +kernel
theorem dX10_init_179 : decode cX10_init 179 = .ok (.aload_n 0, 1) := by decide +kernel
theorem dX10_init_180 : decode cX10_init 180 = .ok (.getfield 23, 3) := by decide +kernel
theorem dX10_init_183 : decode cX10_init 183 = .ok (.getfield 77, 3) := by decide +kernel
theorem dX10_init_186 : decode cX10_init 186 = .ok (.iload_n 1, 1) := by decide +kernel
theorem dX10_init_187 : decode cX10_init 187 = .ok (.aaload, 1) := by decide +kernel
theorem dX10_init_188 : decode cX10_init 188 = .ok (.invokespecial 81, 3) := by decide +kernel
theorem dX10_init_191 : decode cX10_init 191 = .ok (.aastore, 1) := by decide +kernel
theorem dX10_init_192 : decode cX10_init 192 = .ok (.iinc 1 1, 3) := by decide +kernel
theorem dX10_init_195 : decode cX10_init 195 = .ok (.goto (-35), 3) := by decide +kernel
theorem dX10_init_198 : decode cX10_init 198 = .ok (.iconst 0, 1) := by decide +kernel
theorem dX10_init_199 : decode cX10_init 199 = .ok (.istore_n 1, 1) := by decide +kernel
theorem dX10_init_200 : decode cX10_init 200 = .ok (.iload_n 1, 1) := by decide +kernel
theorem dX10_init_201 : decode cX10_init 201 = .ok (.bipush 6, 2) := by decide +kernel
theorem dX10_init_203 : decode cX10_init 203 = .ok (.if_icmp .ge 22, 3) := by decide +kernel
theorem dX10_init_206 : decode cX10_init 206 = .ok (.aload_n 0, 1) := by decide +kernel
theorem dX10_init_207 : decode cX10_init 207 = .ok (.getfield 73, 3) := by decide +kernel
theorem dX10_init_210 : decode cX10_init 210 = .ok (.iload_n 1, 1) := by decide +kernel
theorem dX10_init_211 : decode cX10_init 211 = .ok (.new 71, 3) := by decide +kernel
theorem dX10_init_214 : decode cX10_init 214 = .ok (.dup, 1) := by decide +kernel
theorem dX10_init_215 : decode cX10_init 215 = .ok (.invokespecial 84, 3) := by decide +kernel
theorem dX10_init_218 : decode cX10_init 218 = .ok (.aastore, 1) := by decide +kernel
theorem dX10_init_219 : decode cX10_init 219 = .ok (.iinc 1 1, 3) := by decide +kernel
theorem dX10_init_222 : decode cX10_init 222 = .ok (.goto (-22), 3) := by decide +kernel
theorem dX10_init_225 : decode cX10_init 225 = .ok (.return_, 1) := by decide +kernel
theorem dX10_guest_0 : decode cX10_guest 0 = .ok (.iload_n 1, 1) := by decide +kernel
theorem dX10_guest_1 : decode cX10_guest 1 = .ok (.bipush 7, 2) := by decide +kernel
theorem dX10_guest_3 : decode cX10_guest 3 = .ok (.invokestatic 85, 3) := by decide +kernel
theorem dX10_guest_6 : decode cX10_guest 6 = .ok (.ifCond .ne 5, 3) := by decide +kernel
theorem dX10_guest_9 : decode cX10_guest 9 = .ok (.iconst (-1), 1) := by decide +kernel
theorem dX10_guest_10 : decode cX10_guest 10 = .ok (.ireturn, 1) := by decide +kernel
theorem dX10_guest_11 : decode cX10_guest 11 = .ok (.iload_n 2, 1) := by decide +kernel
theorem dX10_guest_12 : decode cX10_guest 12 = .ok (.bipush 9, 2) := by decide +kernel
theorem dX10_guest_14 : decode cX10_guest 14 = .ok (.invokestatic 89, 3) := by decide +kernel
theorem dX10_guest_17 : decode cX10_guest 17 = .ok (.ifCond .eq 13, 3) := by decide +kernel
theorem dX10_guest_20 : decode cX10_guest 20 = .ok (.iload_n 3, 1) := by decide +kernel
theorem dX10_guest_21 : decode cX10_guest 21 = .ok (.sipush 4095, 3) := by decide +kernel
theorem dX10_guest_24 : decode cX10_guest 24 = .ok (.invokestatic 89, 3) := by decide +kernel
theorem dX10_guest_27 : decode cX10_guest 27 = .ok (.ifCond .ne 6, 3) := by decide +kernel
theorem dX10_guest_30 : decode cX10_guest 30 = .ok (.bipush (-2), 2) := by decide +kernel
theorem dX10_guest_32 : decode cX10_guest 32 = .ok (.ireturn, 1) := by decide +kernel
theorem dX10_guest_33 : decode cX10_guest 33 = .ok (.aload_n 0, 1) := by decide +kernel
theorem dX10_guest_34 : decode cX10_guest 34 = .ok (.getfield 23, 3) := by decide +kernel
theorem dX10_guest_37 : decode cX10_guest 37 = .ok (.getfield 92, 3) := by decide +kernel
theorem dX10_guest_40 : decode cX10_guest 40 = .ok (.bipush 6, 2) := by decide +kernel
theorem dX10_guest_42 : decode cX10_guest 42 = .ok (.if_icmp .lt 6, 3) := by decide +kernel
theorem dX10_guest_45 : decode cX10_guest 45 = .ok (.bipush (-4), 2) := by decide +kernel
theorem dX10_guest_47 : decode cX10_guest 47 = .ok (.ireturn, 1) := by decide +kernel
theorem dX10_guest_48 : decode cX10_guest 48 = .ok (.aload_n 0, 1) := by decide +kernel
theorem dX10_guest_49 : decode cX10_guest 49 = .ok (.getfield 23, 3) := by decide +kernel
theorem dX10_guest_52 : decode cX10_guest 52 = .ok (.getfield 77, 3) := by decide +kernel
theorem dX10_guest_55 : decode cX10_guest 55 = .ok (.aload_n 0, 1) := by decide +kernel
theorem dX10_guest_56 : decode cX10_guest 56 = .ok (.getfield 23, 3) := by decide +kernel
theorem dX10_guest_59 : decode cX10_guest 59 = .ok (.getfield 92, 3) := by decide +kernel
theorem dX10_guest_62 : decode cX10_guest 62 = .ok (.aaload, 1) := by decide +kernel
theorem dX10_guest_63 : decode cX10_guest 63 = .ok (.astore 4, 2) := by decide +kernel
theorem dX10_guest_65 : decode cX10_guest 65 = .ok (.aload 4, 2) := by decide +kernel
theorem dX10_guest_67 : decode cX10_guest 67 = .ok (.iload_n 1, 1) := by decide +kernel
theorem dX10_guest_68 : decode cX10_guest 68 = .ok (.iload_n 2, 1) := by decide +kernel
theorem dX10_guest_69 : decode cX10_guest 69 = .ok (.iload_n 3, 1) := by decide +kernel
theorem dX10_guest_70 : decode cX10_guest 70 = .ok (.invokevirtual 96, 3) := by decide +kernel
theorem dX10_guest_73 : decode cX10_guest 73 = .ok (.aload_n 0, 1) := by decide +kernel
theorem dX10_guest_74 : decode cX10_guest 74 = .ok (.getfield 23, 3) := by decide +kernel
theorem dX10_guest_77 : decode cX10_guest 77 = .ok (.dup, 1) := by decide +kernel
theorem dX10_guest_78 : decode cX10_guest 78 = .ok (.getfield 92, 3) := by decide +kernel
theorem dX10_guest_81 : decode cX10_guest 81 = .ok (.iconst 1, 1) := by decide +kernel
theorem dX10_guest_82 : decode cX10_guest 82 = .ok (.iadd, 1) := by decide +kernel
theorem dX10_guest_83 : decode cX10_guest 83 = .ok (.putfield 92, 3) := by decide +kernel
theorem dX10_guest_86 : decode cX10_guest 86 = .ok (.aload 4, 2) := by decide +kernel
theorem dX10_guest_88 : decode cX10_guest 88 = .ok (.getfield 102, 3) := by decide +kernel
theorem dX10_guest_91 : decode cX10_guest 91 = .ok (.ireturn, 1) := by decide +kernel
theorem dX10_of_0 : decode cX10_of 0 = .ok (.aload_n 0, 1) := by decide +kernel
theorem dX10_of_1 : decode cX10_of 1 = .ok (.iload_n 1, 1) := by decide +kernel
theorem dX10_of_2 : decode cX10_of 2 = .ok (.invokevirtual 105, 3) := by decide +kernel
theorem dX10_of_5 : decode cX10_of 5 = .ok (.ifCond .ne 7, 3) := by decide +kernel
theorem dX10_of_8 : decode cX10_of 8 = .ok (.sipush (-10001), 3) := by decide +kernel
theorem dX10_of_11 : decode cX10_of 11 = .ok (.ireturn, 1) := by decide +kernel
theorem dX10_of_12 : decode cX10_of 12 = .ok (.aload_n 0, 1) := by decide +kernel
theorem dX10_of_13 : decode cX10_of 13 = .ok (.getfield 23, 3) := by decide +kernel
theorem dX10_of_16 : decode cX10_of 16 = .ok (.getfield 77, 3) := by decide +kernel
theorem dX10_of_19 : decode cX10_of 19 = .ok (.iload_n 1, 1) := by decide +kernel
theorem dX10_of_20 : decode cX10_of 20 = .ok (.aaload, 1) := by decide +kernel
theorem dX10_of_21 : decode cX10_of 21 = .ok (.astore_n 3, 1) := by decide +kernel
theorem dX10_of_22 : decode cX10_of 22 = .ok (.iload_n 2, 1) := by decide +kernel
theorem dX10_of_23 : decode cX10_of 23 = .ok (.tableswitch 110 0 7 #[45, 50, 55, 60, 65, 78, 98, 104], 45) := by decide +kernel
theorem dX10_of_68 : decode cX10_of 68 = .ok (.aload_n 3, 1) := by decide +kernel
theorem dX10_of_69 : decode cX10_of 69 = .ok (.getfield 109, 3) := by decide +kernel
theorem dX10_of_72 : decode cX10_of 72 = .ok (.ireturn, 1) := by decide +kernel
theorem dX10_of_73 : decode cX10_of 73 = .ok (.aload_n 3, 1) := by decide +kernel
theorem dX10_of_74 : decode cX10_of 74 = .ok (.getfield 112, 3) := by decide +kernel
theorem dX10_of_77 : decode cX10_of 77 = .ok (.ireturn, 1) := by decide +kernel
theorem dX10_of_78 : decode cX10_of 78 = .ok (.aload_n 3, 1) := by decide +kernel
theorem dX10_of_79 : decode cX10_of 79 = .ok (.getfield 115, 3) := by decide +kernel
theorem dX10_of_82 : decode cX10_of 82 = .ok (.ireturn, 1) := by decide +kernel
theorem dX10_of_83 : decode cX10_of 83 = .ok (.aload_n 3, 1) := by decide +kernel
theorem dX10_of_84 : decode cX10_of 84 = .ok (.getfield 118, 3) := by decide +kernel
theorem dX10_of_87 : decode cX10_of 87 = .ok (.ireturn, 1) := by decide +kernel
theorem dX10_of_88 : decode cX10_of 88 = .ok (.aload_n 3, 1) := by decide +kernel
theorem dX10_of_89 : decode cX10_of 89 = .ok (.getfield 121, 3) := by decide +kernel
theorem dX10_of_92 : decode cX10_of 92 = .ok (.ifCond .eq 7, 3) := by decide +kernel
theorem dX10_of_95 : decode cX10_of 95 = .ok (.iconst 1, 1) := by decide +kernel
theorem dX10_of_96 : decode cX10_of 96 = .ok (.goto 4, 3) := by decide +kernel
theorem dX10_of_99 : decode cX10_of 99 = .ok (.iconst 0, 1) := by decide +kernel
theorem dX10_of_100 : decode cX10_of 100 = .ok (.ireturn, 1) := by decide +kernel
theorem dX10_of_101 : decode cX10_of 101 = .ok (.aload_n 0, 1) := by decide +kernel
theorem dX10_of_102 : decode cX10_of 102 = .ok (.aload_n 3, 1) := by decide +kernel
theorem dX10_of_103 : decode cX10_of 103 = .ok (.invokevirtual 125, 3) := by decide +kernel
theorem dX10_of_106 : decode cX10_of 106 = .ok (.aload_n 3, 1) := by decide +kernel
theorem dX10_of_107 : decode cX10_of 107 = .ok (.getfield 115, 3) := by decide +kernel
theorem dX10_of_110 : decode cX10_of 110 = .ok (.aload_n 0, 1) := by decide +kernel
theorem dX10_of_111 : decode cX10_of 111 = .ok (.getfield 23, 3) := by decide +kernel
theorem dX10_of_114 : decode cX10_of 114 = .ok (.getfield 129, 3) := by decide +kernel
theorem dX10_of_117 : decode cX10_of 117 = .ok (.invokevirtual 132, 3) := by decide +kernel
theorem dX10_of_120 : decode cX10_of 120 = .ok (.ireturn, 1) := by decide +kernel
theorem dX10_of_121 : decode cX10_of 121 = .ok (.aload_n 0, 1) := by decide +kernel
theorem dX10_of_122 : decode cX10_of 122 = .ok (.aload_n 3, 1) := by decide +kernel
theorem dX10_of_123 : decode cX10_of 123 = .ok (.invokevirtual 136, 3) := by decide +kernel
theorem dX10_of_126 : decode cX10_of 126 = .ok (.ireturn, 1) := by decide +kernel
theorem dX10_of_127 : decode cX10_of 127 = .ok (.aload_n 0, 1) := by decide +kernel
theorem dX10_of_128 : decode cX10_of 128 = .ok (.aload_n 3, 1) := by decide +kernel
theorem dX10_of_129 : decode cX10_of 129 = .ok (.invokevirtual 140, 3) := by decide +kernel
theorem dX10_of_132 : decode cX10_of 132 = .ok (.ireturn, 1) := by decide +kernel
theorem dX10_of_133 : decode cX10_of 133 = .ok (.iload_n 2, 1) := by decide +kernel
theorem dX10_of_134 : decode cX10_of 134 = .ok (.bipush 10, 2) := by decide +kernel
theorem dX10_of_136 : decode cX10_of 136 = .ok (.isub, 1) := by decide +kernel
theorem dX10_of_137 : decode cX10_of 137 = .ok (.invokestatic 143, 3) := by decide +kernel
theorem dX10_of_140 : decode cX10_of 140 = .ok (.ifCond .eq 25, 3) := by decide +kernel
theorem dX10_of_143 : decode cX10_of 143 = .ok (.aload_n 0, 1) := by decide +kernel
theorem dX10_of_144 : decode cX10_of 144 = .ok (.aload_n 3, 1) := by decide +kernel
theorem dX10_of_145 : decode cX10_of 145 = .ok (.invokevirtual 125, 3) := by decide +kernel
theorem dX10_of_148 : decode cX10_of 148 = .ok (.iload_n 2, 1) := by decide +kernel
theorem dX10_of_149 : decode cX10_of 149 = .ok (.bipush 10, 2) := by decide +kernel
theorem dX10_of_151 : decode cX10_of 151 = .ok (.isub, 1) := by decide +kernel
theorem dX10_of_152 : decode cX10_of 152 = .ok (.aload_n 0, 1) := by decide +kernel
theorem dX10_of_153 : decode cX10_of 153 = .ok (.getfield 23, 3) := by decide +kernel
theorem dX10_of_156 : decode cX10_of 156 = .ok (.getfield 129, 3) := by decide +kernel
theorem dX10_of_159 : decode cX10_of 159 = .ok (.invokevirtual 146, 3) := by decide +kernel
theorem dX10_of_162 : decode cX10_of 162 = .ok (.goto 6, 3) := by decide +kernel
theorem dX10_of_165 : decode cX10_of 165 = .ok (.sipush (-10001), 3) := by decide +kernel
theorem dX10_of_168 : decode cX10_of 168 = .ok (.ireturn, 1) := by decide +kernel
theorem dX10_set_0 : decode cX10_set 0 = .ok (.aload_n 0, 1) := by decide +kernel
theorem dX10_set_1 : decode cX10_set 1 = .ok (.iload_n 1, 1) := by decide +kernel
theorem dX10_set_2 : decode cX10_set 2 = .ok (.invokevirtual 105, 3) := by decide +kernel
theorem dX10_set_5 : decode cX10_set 5 = .ok (.ifCond .eq 11, 3) := by decide +kernel
theorem dX10_set_8 : decode cX10_set 8 = .ok (.iload_n 2, 1) := by decide +kernel
theorem dX10_set_9 : decode cX10_set 9 = .ok (.iconst 2, 1) := by decide +kernel
theorem dX10_set_10 : decode cX10_set 10 = .ok (.invokestatic 85, 3) := by decide +kernel
theorem dX10_set_13 : decode cX10_set 13 = .ok (.ifCond .ne 5, 3) := by decide +kernel
theorem dX10_set_16 : decode cX10_set 16 = .ok (.iconst (-1), 1) := by decide +kernel
theorem dX10_set_17 : decode cX10_set 17 = .ok (.ireturn, 1) := by decide +kernel
theorem dX10_set_18 : decode cX10_set 18 = .ok (.iload_n 3, 1) := by decide +kernel
theorem dX10_set_19 : decode cX10_set 19 = .ok (.sipush 4095, 3) := by decide +kernel
theorem dX10_set_22 : decode cX10_set 22 = .ok (.invokestatic 89, 3) := by decide +kernel
theorem dX10_set_25 : decode cX10_set 25 = .ok (.ifCond .ne 6, 3) := by decide +kernel
theorem dX10_set_28 : decode cX10_set 28 = .ok (.bipush (-2), 2) := by decide +kernel
theorem dX10_set_30 : decode cX10_set 30 = .ok (.ireturn, 1) := by decide +kernel
theorem dX10_set_31 : decode cX10_set 31 = .ok (.aload_n 0, 1) := by decide +kernel
theorem dX10_set_32 : decode cX10_set 32 = .ok (.getfield 23, 3) := by decide +kernel
theorem dX10_set_35 : decode cX10_set 35 = .ok (.getfield 77, 3) := by decide +kernel
theorem dX10_set_38 : decode cX10_set 38 = .ok (.iload_n 1, 1) := by decide +kernel
theorem dX10_set_39 : decode cX10_set 39 = .ok (.aaload, 1) := by decide +kernel
theorem dX10_set_40 : decode cX10_set 40 = .ok (.astore 4, 2) := by decide +kernel
theorem dX10_set_42 : decode cX10_set 42 = .ok (.iload_n 2, 1) := by decide +kernel
theorem dX10_set_43 : decode cX10_set 43 = .ok (.ifCond .ne 11, 3) := by decide +kernel
theorem dX10_set_46 : decode cX10_set 46 = .ok (.aload 4, 2) := by decide +kernel
theorem dX10_set_48 : decode cX10_set 48 = .ok (.getfield 115, 3) := by decide +kernel
theorem dX10_set_51 : decode cX10_set 51 = .ok (.goto 8, 3) := by decide +kernel
theorem dX10_set_54 : decode cX10_set 54 = .ok (.aload 4, 2) := by decide +kernel
theorem dX10_set_56 : decode cX10_set 56 = .ok (.getfield 118, 3) := by decide +kernel
theorem dX10_set_59 : decode cX10_set 59 = .ok (.istore 5, 2) := by decide +kernel
theorem dX10_set_61 : decode cX10_set 61 = .ok (.iload_n 2, 1) := by decide +kernel
theorem dX10_set_62 : decode cX10_set 62 = .ok (.ifCond .ne 12, 3) := by decide +kernel
theorem dX10_set_65 : decode cX10_set 65 = .ok (.aload 4, 2) := by decide +kernel
theorem dX10_set_67 : decode cX10_set 67 = .ok (.iload_n 3, 1) := by decide +kernel
theorem dX10_set_68 : decode cX10_set 68 = .ok (.putfield 115, 3) := by decide +kernel
theorem dX10_set_71 : decode cX10_set 71 = .ok (.goto 9, 3) := by decide +kernel
theorem dX10_set_74 : decode cX10_set 74 = .ok (.aload 4, 2) := by decide +kernel
theorem dX10_set_76 : decode cX10_set 76 = .ok (.iload_n 3, 1) := by decide +kernel
theorem dX10_set_77 : decode cX10_set 77 = .ok (.putfield 118, 3) := by decide +kernel
theorem dX10_set_80 : decode cX10_set 80 = .ok (.iload 5, 2) := by decide +kernel
theorem dX10_set_82 : decode cX10_set 82 = .ok (.ireturn, 1) := by decide +kernel
theorem dX10_weight_0 : decode cX10_weight 0 = .ok (.iload_n 1, 1) := by decide +kernel
theorem dX10_weight_1 : decode cX10_weight 1 = .ok (.invokestatic 143, 3) := by decide +kernel
theorem dX10_weight_4 : decode cX10_weight 4 = .ok (.ifCond .ne 5, 3) := by decide +kernel
theorem dX10_weight_7 : decode cX10_weight 7 = .ok (.iconst (-1), 1) := by decide +kernel
theorem dX10_weight_8 : decode cX10_weight 8 = .ok (.ireturn, 1) := by decide +kernel
theorem dX10_weight_9 : decode cX10_weight 9 = .ok (.iload_n 2, 1) := by decide +kernel
theorem dX10_weight_10 : decode cX10_weight 10 = .ok (.bipush 9, 2) := by decide +kernel
theorem dX10_weight_12 : decode cX10_weight 12 = .ok (.invokestatic 89, 3) := by decide +kernel
theorem dX10_weight_15 : decode cX10_weight 15 = .ok (.ifCond .ne 6, 3) := by decide +kernel
theorem dX10_weight_18 : decode cX10_weight 18 = .ok (.bipush (-2), 2) := by decide +kernel
theorem dX10_weight_20 : decode cX10_weight 20 = .ok (.ireturn, 1) := by decide +kernel
theorem dX10_weight_21 : decode cX10_weight 21 = .ok (.aload_n 0, 1) := by decide +kernel
theorem dX10_weight_22 : decode cX10_weight 22 = .ok (.getfield 23, 3) := by decide +kernel
theorem dX10_weight_25 : decode cX10_weight 25 = .ok (.getfield 149, 3) := by decide +kernel
theorem dX10_weight_28 : decode cX10_weight 28 = .ok (.iload_n 1, 1) := by decide +kernel
theorem dX10_weight_29 : decode cX10_weight 29 = .ok (.iaload, 1) := by decide +kernel
theorem dX10_weight_30 : decode cX10_weight 30 = .ok (.istore_n 3, 1) := by decide +kernel
theorem dX10_weight_31 : decode cX10_weight 31 = .ok (.aload_n 0, 1) := by decide +kernel
theorem dX10_weight_32 : decode cX10_weight 32 = .ok (.getfield 23, 3) := by decide +kernel
theorem dX10_weight_35 : decode cX10_weight 35 = .ok (.getfield 149, 3) := by decide +kernel
theorem dX10_weight_38 : decode cX10_weight 38 = .ok (.iload_n 1, 1) := by decide +kernel
theorem dX10_weight_39 : decode cX10_weight 39 = .ok (.iload_n 2, 1) := by decide +kernel
theorem dX10_weight_40 : decode cX10_weight 40 = .ok (.iastore, 1) := by decide +kernel
theorem dX10_weight_41 : decode cX10_weight 41 = .ok (.iload_n 3, 1) := by decide +kernel
theorem dX10_weight_42 : decode cX10_weight 42 = .ok (.ireturn, 1) := by decide +kernel
theorem dX10_stay_0 : decode cX10_stay 0 = .ok (.aload_n 0, 1) := by decide +kernel
theorem dX10_stay_1 : decode cX10_stay 1 = .ok (.iload_n 1, 1) := by decide +kernel
theorem dX10_stay_2 : decode cX10_stay 2 = .ok (.invokevirtual 105, 3) := by decide +kernel
theorem dX10_stay_5 : decode cX10_stay 5 = .ok (.ifCond .ne 5, 3) := by decide +kernel
theorem dX10_stay_8 : decode cX10_stay 8 = .ok (.iconst (-1), 1) := by decide +kernel
theorem dX10_stay_9 : decode cX10_stay 9 = .ok (.ireturn, 1) := by decide +kernel
theorem dX10_stay_10 : decode cX10_stay 10 = .ok (.aload_n 0, 1) := by decide +kernel
theorem dX10_stay_11 : decode cX10_stay 11 = .ok (.getfield 23, 3) := by decide +kernel
theorem dX10_stay_14 : decode cX10_stay 14 = .ok (.getfield 77, 3) := by decide +kernel
theorem dX10_stay_17 : decode cX10_stay 17 = .ok (.iload_n 1, 1) := by decide +kernel
theorem dX10_stay_18 : decode cX10_stay 18 = .ok (.aaload, 1) := by decide +kernel
theorem dX10_stay_19 : decode cX10_stay 19 = .ok (.getfield 121, 3) := by decide +kernel
theorem dX10_stay_22 : decode cX10_stay 22 = .ok (.istore_n 3, 1) := by decide +kernel
theorem dX10_stay_23 : decode cX10_stay 23 = .ok (.aload_n 0, 1) := by decide +kernel
theorem dX10_stay_24 : decode cX10_stay 24 = .ok (.getfield 23, 3) := by decide +kernel
theorem dX10_stay_27 : decode cX10_stay 27 = .ok (.getfield 77, 3) := by decide +kernel
theorem dX10_stay_30 : decode cX10_stay 30 = .ok (.iload_n 1, 1) := by decide +kernel
theorem dX10_stay_31 : decode cX10_stay 31 = .ok (.aaload, 1) := by decide +kernel
theorem dX10_stay_32 : decode cX10_stay 32 = .ok (.iload_n 2, 1) := by decide +kernel
theorem dX10_stay_33 : decode cX10_stay 33 = .ok (.putfield 121, 3) := by decide +kernel
theorem dX10_stay_36 : decode cX10_stay 36 = .ok (.iload_n 3, 1) := by decide +kernel
theorem dX10_stay_37 : decode cX10_stay 37 = .ok (.ifCond .eq 7, 3) := by decide +kernel
theorem dX10_stay_40 : decode cX10_stay 40 = .ok (.iconst 1, 1) := by decide +kernel
theorem dX10_stay_41 : decode cX10_stay 41 = .ok (.goto 4, 3) := by decide +kernel
theorem dX10_stay_44 : decode cX10_stay 44 = .ok (.iconst 0, 1) := by decide +kernel
theorem dX10_stay_45 : decode cX10_stay 45 = .ok (.ireturn, 1) := by decide +kernel
theorem dX10_redeem_0 : decode cX10_redeem 0 = .ok (.aload_n 0, 1) := by decide +kernel
theorem dX10_redeem_1 : decode cX10_redeem 1 = .ok (.iload_n 1, 1) := by decide +kernel
theorem dX10_redeem_2 : decode cX10_redeem 2 = .ok (.invokevirtual 105, 3) := by decide +kernel
theorem dX10_redeem_5 : decode cX10_redeem 5 = .ok (.ifCond .eq 10, 3) := by decide +kernel
theorem dX10_redeem_8 : decode cX10_redeem 8 = .ok (.iload_n 2, 1) := by decide +kernel
theorem dX10_redeem_9 : decode cX10_redeem 9 = .ok (.invokestatic 143, 3) := by decide +kernel
theorem dX10_redeem_12 : decode cX10_redeem 12 = .ok (.ifCond .ne 5, 3) := by decide +kernel
theorem dX10_redeem_15 : decode cX10_redeem 15 = .ok (.iconst (-1), 1) := by decide +kernel
theorem dX10_redeem_16 : decode cX10_redeem 16 = .ok (.ireturn, 1) := by decide +kernel
theorem dX10_redeem_17 : decode cX10_redeem 17 = .ok (.aload_n 0, 1) := by decide +kernel
theorem dX10_redeem_18 : decode cX10_redeem 18 = .ok (.getfield 23, 3) := by decide +kernel
theorem dX10_redeem_21 : decode cX10_redeem 21 = .ok (.getfield 77, 3) := by decide +kernel
theorem dX10_redeem_24 : decode cX10_redeem 24 = .ok (.iload_n 1, 1) := by decide +kernel
theorem dX10_redeem_25 : decode cX10_redeem 25 = .ok (.aaload, 1) := by decide +kernel
theorem dX10_redeem_26 : decode cX10_redeem 26 = .ok (.astore_n 3, 1) := by decide +kernel
theorem dX10_redeem_27 : decode cX10_redeem 27 = .ok (.aload_n 3, 1) := by decide +kernel
theorem dX10_redeem_28 : decode cX10_redeem 28 = .ok (.invokevirtual 153, 3) := by decide +kernel
theorem dX10_redeem_31 : decode cX10_redeem 31 = .ok (.iload_n 2, 1) := by decide +kernel
theorem dX10_redeem_32 : decode cX10_redeem 32 = .ok (.invokestatic 157, 3) := by decide +kernel
theorem dX10_redeem_35 : decode cX10_redeem 35 = .ok (.ifCond .eq 15, 3) := by decide +kernel
theorem dX10_redeem_38 : decode cX10_redeem 38 = .ok (.aload_n 0, 1) := by decide +kernel
theorem dX10_redeem_39 : decode cX10_redeem 39 = .ok (.getfield 23, 3) := by decide +kernel
theorem dX10_redeem_42 : decode cX10_redeem 42 = .ok (.getfield 160, 3) := by decide +kernel
theorem dX10_redeem_45 : decode cX10_redeem 45 = .ok (.iload_n 2, 1) := by decide +kernel
theorem dX10_redeem_46 : decode cX10_redeem 46 = .ok (.iaload, 1) := by decide +kernel
theorem dX10_redeem_47 : decode cX10_redeem 47 = .ok (.ifCond .gt 6, 3) := by decide +kernel
theorem dX10_redeem_50 : decode cX10_redeem 50 = .ok (.bipush (-3), 2) := by decide +kernel
theorem dX10_redeem_52 : decode cX10_redeem 52 = .ok (.ireturn, 1) := by decide +kernel
theorem dX10_redeem_53 : decode cX10_redeem 53 = .ok (.aload_n 3, 1) := by decide +kernel
theorem dX10_redeem_54 : decode cX10_redeem 54 = .ok (.dup, 1) := by decide +kernel
theorem dX10_redeem_55 : decode cX10_redeem 55 = .ok (.getfield 115, 3) := by decide +kernel
theorem dX10_redeem_58 : decode cX10_redeem 58 = .ok (.iconst 1, 1) := by decide +kernel
theorem dX10_redeem_59 : decode cX10_redeem 59 = .ok (.iload_n 2, 1) := by decide +kernel
theorem dX10_redeem_60 : decode cX10_redeem 60 = .ok (.ishl, 1) := by decide +kernel
theorem dX10_redeem_61 : decode cX10_redeem 61 = .ok (.ior, 1) := by decide +kernel
theorem dX10_redeem_62 : decode cX10_redeem 62 = .ok (.putfield 115, 3) := by decide +kernel
theorem dX10_redeem_65 : decode cX10_redeem 65 = .ok (.aload_n 3, 1) := by decide +kernel
theorem dX10_redeem_66 : decode cX10_redeem 66 = .ok (.dup, 1) := by decide +kernel
theorem dX10_redeem_67 : decode cX10_redeem 67 = .ok (.getfield 118, 3) := by decide +kernel
theorem dX10_redeem_70 : decode cX10_redeem 70 = .ok (.iconst 1, 1) := by decide +kernel
theorem dX10_redeem_71 : decode cX10_redeem 71 = .ok (.iload_n 2, 1) := by decide +kernel
theorem dX10_redeem_72 : decode cX10_redeem 72 = .ok (.ishl, 1) := by decide +kernel
theorem dX10_redeem_73 : decode cX10_redeem 73 = .ok (.iconst (-1), 1) := by decide +kernel
theorem dX10_redeem_74 : decode cX10_redeem 74 = .ok (.ixor, 1) := by decide +kernel
theorem dX10_redeem_75 : decode cX10_redeem 75 = .ok (.iand, 1) := by decide +kernel
theorem dX10_redeem_76 : decode cX10_redeem 76 = .ok (.putfield 118, 3) := by decide +kernel
theorem dX10_redeem_79 : decode cX10_redeem 79 = .ok (.aload_n 0, 1) := by decide +kernel
theorem dX10_redeem_80 : decode cX10_redeem 80 = .ok (.getfield 23, 3) := by decide +kernel
theorem dX10_redeem_83 : decode cX10_redeem 83 = .ok (.getfield 160, 3) := by decide +kernel
theorem dX10_redeem_86 : decode cX10_redeem 86 = .ok (.iload_n 2, 1) := by decide +kernel
theorem dX10_redeem_87 : decode cX10_redeem 87 = .ok (.dup2, 1) := by decide +kernel
theorem dX10_redeem_88 : decode cX10_redeem 88 = .ok (.iaload, 1) := by decide +kernel
theorem dX10_redeem_89 : decode cX10_redeem 89 = .ok (.iconst 1, 1) := by decide +kernel
theorem dX10_redeem_90 : decode cX10_redeem 90 = .ok (.isub, 1) := by decide +kernel
theorem dX10_redeem_91 : decode cX10_redeem 91 = .ok (.iastore, 1) := by decide +kernel
theorem dX10_redeem_92 : decode cX10_redeem 92 = .ok (.aload_n 0, 1) := by decide +kernel
theorem dX10_redeem_93 : decode cX10_redeem 93 = .ok (.getfield 23, 3) := by decide +kernel
theorem dX10_redeem_96 : decode cX10_redeem 96 = .ok (.getfield 160, 3) := by decide +kernel
theorem dX10_redeem_99 : decode cX10_redeem 99 = .ok (.iload_n 2, 1) := by decide +kernel
theorem dX10_redeem_100 : decode cX10_redeem 100 = .ok (.iaload, 1) := by decide +kernel
theorem dX10_redeem_101 : decode cX10_redeem 101 = .ok (.ireturn, 1) := by decide +kernel
theorem dX10_row_0 : decode cX10_row 0 = .ok (.aload_n 0, 1) := by decide +kernel
theorem dX10_row_1 : decode cX10_row 1 = .ok (.iload_n 1, 1) := by decide +kernel
theorem dX10_row_2 : decode cX10_row 2 = .ok (.invokevirtual 105, 3) := by decide +kernel
theorem dX10_row_5 : decode cX10_row 5 = .ok (.ifCond .eq 11, 3) := by decide +kernel
theorem dX10_row_8 : decode cX10_row 8 = .ok (.iload_n 2, 1) := by decide +kernel
theorem dX10_row_9 : decode cX10_row 9 = .ok (.iconst 4, 1) := by decide +kernel
theorem dX10_row_10 : decode cX10_row 10 = .ok (.invokestatic 85, 3) := by decide +kernel
theorem dX10_row_13 : decode cX10_row 13 = .ok (.ifCond .ne 5, 3) := by decide +kernel
theorem dX10_row_16 : decode cX10_row 16 = .ok (.iconst (-1), 1) := by decide +kernel
theorem dX10_row_17 : decode cX10_row 17 = .ok (.ireturn, 1) := by decide +kernel
theorem dX10_row_18 : decode cX10_row 18 = .ok (.iload_n 3, 1) := by decide +kernel
theorem dX10_row_19 : decode cX10_row 19 = .ok (.bipush 9, 2) := by decide +kernel
theorem dX10_row_21 : decode cX10_row 21 = .ok (.invokestatic 89, 3) := by decide +kernel
theorem dX10_row_24 : decode cX10_row 24 = .ok (.ifCond .ne 6, 3) := by decide +kernel
theorem dX10_row_27 : decode cX10_row 27 = .ok (.bipush (-2), 2) := by decide +kernel
theorem dX10_row_29 : decode cX10_row 29 = .ok (.ireturn, 1) := by decide +kernel
theorem dX10_row_30 : decode cX10_row 30 = .ok (.aload_n 0, 1) := by decide +kernel
theorem dX10_row_31 : decode cX10_row 31 = .ok (.getfield 23, 3) := by decide +kernel
theorem dX10_row_34 : decode cX10_row 34 = .ok (.getfield 77, 3) := by decide +kernel
theorem dX10_row_37 : decode cX10_row 37 = .ok (.iload_n 1, 1) := by decide +kernel
theorem dX10_row_38 : decode cX10_row 38 = .ok (.aaload, 1) := by decide +kernel
theorem dX10_row_39 : decode cX10_row 39 = .ok (.astore 4, 2) := by decide +kernel
theorem dX10_row_41 : decode cX10_row 41 = .ok (.aload 4, 2) := by decide +kernel
theorem dX10_row_43 : decode cX10_row 43 = .ok (.getfield 109, 3) := by decide +kernel
theorem dX10_row_46 : decode cX10_row 46 = .ok (.bipush 6, 2) := by decide +kernel
theorem dX10_row_48 : decode cX10_row 48 = .ok (.if_icmp .eq 6, 3) := by decide +kernel
theorem dX10_row_51 : decode cX10_row 51 = .ok (.bipush (-3), 2) := by decide +kernel
theorem dX10_row_53 : decode cX10_row 53 = .ok (.ireturn, 1) := by decide +kernel
theorem dX10_row_54 : decode cX10_row 54 = .ok (.aload 4, 2) := by decide +kernel
theorem dX10_row_56 : decode cX10_row 56 = .ok (.getfield 163, 3) := by decide +kernel
theorem dX10_row_59 : decode cX10_row 59 = .ok (.iload_n 2, 1) := by decide +kernel
theorem dX10_row_60 : decode cX10_row 60 = .ok (.iaload, 1) := by decide +kernel
theorem dX10_row_61 : decode cX10_row 61 = .ok (.istore 5, 2) := by decide +kernel
theorem dX10_row_63 : decode cX10_row 63 = .ok (.aload 4, 2) := by decide +kernel
theorem dX10_row_65 : decode cX10_row 65 = .ok (.getfield 163, 3) := by decide +kernel
theorem dX10_row_68 : decode cX10_row 68 = .ok (.iload_n 2, 1) := by decide +kernel
theorem dX10_row_69 : decode cX10_row 69 = .ok (.iload_n 3, 1) := by decide +kernel
theorem dX10_row_70 : decode cX10_row 70 = .ok (.iastore, 1) := by decide +kernel
theorem dX10_row_71 : decode cX10_row 71 = .ok (.iload 5, 2) := by decide +kernel
theorem dX10_row_73 : decode cX10_row 73 = .ok (.ireturn, 1) := by decide +kernel
theorem dX10_feed_0 : decode cX10_feed 0 = .ok (.iload_n 1, 1) := by decide +kernel
theorem dX10_feed_1 : decode cX10_feed 1 = .ok (.bipush 127, 2) := by decide +kernel
theorem dX10_feed_3 : decode cX10_feed 3 = .ok (.invokestatic 89, 3) := by decide +kernel
theorem dX10_feed_6 : decode cX10_feed 6 = .ok (.ifCond .ne 6, 3) := by decide +kernel
theorem dX10_feed_9 : decode cX10_feed 9 = .ok (.bipush (-2), 2) := by decide +kernel
theorem dX10_feed_11 : decode cX10_feed 11 = .ok (.ireturn, 1) := by decide +kernel
theorem dX10_feed_12 : decode cX10_feed 12 = .ok (.aload_n 0, 1) := by decide +kernel
theorem dX10_feed_13 : decode cX10_feed 13 = .ok (.getfield 36, 3) := by decide +kernel
theorem dX10_feed_16 : decode cX10_feed 16 = .ok (.iload_n 1, 1) := by decide +kernel
theorem dX10_feed_17 : decode cX10_feed 17 = .ok (.invokevirtual 166, 3) := by decide +kernel
theorem dX10_feed_20 : decode cX10_feed 20 = .ok (.ifCond .eq 13, 3) := by decide +kernel
theorem dX10_feed_23 : decode cX10_feed 23 = .ok (.aload_n 0, 1) := by decide +kernel
theorem dX10_feed_24 : decode cX10_feed 24 = .ok (.getfield 36, 3) := by decide +kernel
theorem dX10_feed_27 : decode cX10_feed 27 = .ok (.getfield 169, 3) := by decide +kernel
theorem dX10_feed_30 : decode cX10_feed 30 = .ok (.goto 5, 3) := by decide +kernel
theorem dX10_feed_33 : decode cX10_feed 33 = .ok (.bipush (-4), 2) := by decide +kernel
theorem dX10_feed_35 : decode cX10_feed 35 = .ok (.ireturn, 1) := by decide +kernel
theorem dX10_house_0 : decode cX10_house 0 = .ok (.aload_n 0, 1) := by decide +kernel
theorem dX10_house_1 : decode cX10_house 1 = .ok (.getfield 172, 3) := by decide +kernel
theorem dX10_house_4 : decode cX10_house 4 = .ok (.bipush 6, 2) := by decide +kernel
theorem dX10_house_6 : decode cX10_house 6 = .ok (.if_icmp .lt 6, 3) := by decide +kernel
theorem dX10_house_9 : decode cX10_house 9 = .ok (.bipush (-4), 2) := by decide +kernel
theorem dX10_house_11 : decode cX10_house 11 = .ok (.ireturn, 1) := by decide +kernel
theorem dX10_house_12 : decode cX10_house 12 = .ok (.aload_n 0, 1) := by decide +kernel
theorem dX10_house_13 : decode cX10_house 13 = .ok (.getfield 40, 3) := by decide +kernel
theorem dX10_house_16 : decode cX10_house 16 = .ok (.aload_n 0, 1) := by decide +kernel
theorem dX10_house_17 : decode cX10_house 17 = .ok (.getfield 172, 3) := by decide +kernel
theorem dX10_house_20 : decode cX10_house 20 = .ok (.aaload, 1) := by decide +kernel
theorem dX10_house_21 : decode cX10_house 21 = .ok (.astore_n 1, 1) := by decide +kernel
theorem dX10_house_22 : decode cX10_house 22 = .ok (.aload_n 0, 1) := by decide +kernel
theorem dX10_house_23 : decode cX10_house 23 = .ok (.getfield 36, 3) := by decide +kernel
theorem dX10_house_26 : decode cX10_house 26 = .ok (.aload_n 1, 1) := by decide +kernel
theorem dX10_house_27 : decode cX10_house 27 = .ok (.invokevirtual 175, 3) := by decide +kernel
theorem dX10_house_30 : decode cX10_house 30 = .ok (.istore_n 2, 1) := by decide +kernel
theorem dX10_house_31 : decode cX10_house 31 = .ok (.aload_n 0, 1) := by decide +kernel
theorem dX10_house_32 : decode cX10_house 32 = .ok (.getfield 36, 3) := by decide +kernel
theorem dX10_house_35 : decode cX10_house 35 = .ok (.iconst 0, 1) := by decide +kernel
theorem dX10_house_36 : decode cX10_house 36 = .ok (.putfield 169, 3) := by decide +kernel
theorem dX10_house_39 : decode cX10_house 39 = .ok (.iload_n 2, 1) := by decide +kernel
theorem dX10_house_40 : decode cX10_house 40 = .ok (.ifCond .ne 14, 3) := by decide +kernel
theorem dX10_house_43 : decode cX10_house 43 = .ok (.bipush (-10), 2) := by decide +kernel
theorem dX10_house_45 : decode cX10_house 45 = .ok (.aload_n 0, 1) := by decide +kernel
theorem dX10_house_46 : decode cX10_house 46 = .ok (.getfield 36, 3) := by decide +kernel
theorem dX10_house_49 : decode cX10_house 49 = .ok (.getfield 179, 3) := by decide +kernel
theorem dX10_house_52 : decode cX10_house 52 = .ok (.isub, 1) := by decide +kernel
theorem dX10_house_53 : decode cX10_house 53 = .ok (.ireturn, 1) := by decide +kernel
theorem dX10_house_54 : decode cX10_house 54 = .ok (.aload_n 0, 1) := by decide +kernel
theorem dX10_house_55 : decode cX10_house 55 = .ok (.getfield 23, 3) := by decide +kernel
theorem dX10_house_58 : decode cX10_house 58 = .ok (.aload_n 1, 1) := by decide +kernel
theorem dX10_house_59 : decode cX10_house 59 = .ok (.putfield 182, 3) := by decide +kernel
theorem dX10_house_62 : decode cX10_house 62 = .ok (.aload_n 0, 1) := by decide +kernel
theorem dX10_house_63 : decode cX10_house 63 = .ok (.dup, 1) := by decide +kernel
theorem dX10_house_64 : decode cX10_house 64 = .ok (.getfield 172, 3) := by decide +kernel
theorem dX10_house_67 : decode cX10_house 67 = .ok (.iconst 1, 1) := by decide +kernel
theorem dX10_house_68 : decode cX10_house 68 = .ok (.iadd, 1) := by decide +kernel
theorem dX10_house_69 : decode cX10_house 69 = .ok (.putfield 172, 3) := by decide +kernel
theorem dX10_house_72 : decode cX10_house 72 = .ok (.aload_n 0, 1) := by decide +kernel
theorem dX10_house_73 : decode cX10_house 73 = .ok (.getfield 172, 3) := by decide +kernel
theorem dX10_house_76 : decode cX10_house 76 = .ok (.iconst 1, 1) := by decide +kernel
theorem dX10_house_77 : decode cX10_house 77 = .ok (.isub, 1) := by decide +kernel
theorem dX10_house_78 : decode cX10_house 78 = .ok (.ireturn, 1) := by decide +kernel
theorem dX10_told_0 : decode cX10_told 0 = .ok (.iload_n 1, 1) := by decide +kernel
theorem dX10_told_1 : decode cX10_told 1 = .ok (.tableswitch 82 0 4 #[35, 43, 54, 62, 74], 35) := by decide +kernel
theorem dX10_told_36 : decode cX10_told 36 = .ok (.aload_n 0, 1) := by decide +kernel
theorem dX10_told_37 : decode cX10_told 37 = .ok (.getfield 23, 3) := by decide +kernel
theorem dX10_told_40 : decode cX10_told 40 = .ok (.getfield 129, 3) := by decide +kernel
theorem dX10_told_43 : decode cX10_told 43 = .ok (.ireturn, 1) := by decide +kernel
theorem dX10_told_44 : decode cX10_told 44 = .ok (.aload_n 0, 1) := by decide +kernel
theorem dX10_told_45 : decode cX10_told 45 = .ok (.getfield 23, 3) := by decide +kernel
theorem dX10_told_48 : decode cX10_told 48 = .ok (.getfield 182, 3) := by decide +kernel
theorem dX10_told_51 : decode cX10_told 51 = .ok (.getfield 185, 3) := by decide +kernel
theorem dX10_told_54 : decode cX10_told 54 = .ok (.ireturn, 1) := by decide +kernel
theorem dX10_told_55 : decode cX10_told 55 = .ok (.aload_n 0, 1) := by decide +kernel
theorem dX10_told_56 : decode cX10_told 56 = .ok (.getfield 23, 3) := by decide +kernel
theorem dX10_told_59 : decode cX10_told 59 = .ok (.invokevirtual 188, 3) := by decide +kernel
theorem dX10_told_62 : decode cX10_told 62 = .ok (.ireturn, 1) := by decide +kernel
theorem dX10_told_63 : decode cX10_told 63 = .ok (.aload_n 0, 1) := by decide +kernel
theorem dX10_told_64 : decode cX10_told 64 = .ok (.getfield 60, 3) := by decide +kernel
theorem dX10_told_67 : decode cX10_told 67 = .ok (.aload_n 0, 1) := by decide +kernel
theorem dX10_told_68 : decode cX10_told 68 = .ok (.getfield 23, 3) := by decide +kernel
theorem dX10_told_71 : decode cX10_told 71 = .ok (.invokevirtual 191, 3) := by decide +kernel
theorem dX10_told_74 : decode cX10_told 74 = .ok (.ireturn, 1) := by decide +kernel
theorem dX10_told_75 : decode cX10_told 75 = .ok (.aload_n 0, 1) := by decide +kernel
theorem dX10_told_76 : decode cX10_told 76 = .ok (.getfield 23, 3) := by decide +kernel
theorem dX10_told_79 : decode cX10_told 79 = .ok (.invokevirtual 195, 3) := by decide +kernel
theorem dX10_told_82 : decode cX10_told 82 = .ok (.ireturn, 1) := by decide +kernel
theorem dX10_told_83 : decode cX10_told 83 = .ok (.iload_n 1, 1) := by decide +kernel
theorem dX10_told_84 : decode cX10_told 84 = .ok (.bipush 10, 2) := by decide +kernel
theorem dX10_told_86 : decode cX10_told 86 = .ok (.isub, 1) := by decide +kernel
theorem dX10_told_87 : decode cX10_told 87 = .ok (.invokestatic 143, 3) := by decide +kernel
theorem dX10_told_90 : decode cX10_told 90 = .ok (.ifCond .eq 16, 3) := by decide +kernel
theorem dX10_told_93 : decode cX10_told 93 = .ok (.aload_n 0, 1) := by decide +kernel
theorem dX10_told_94 : decode cX10_told 94 = .ok (.getfield 23, 3) := by decide +kernel
theorem dX10_told_97 : decode cX10_told 97 = .ok (.getfield 160, 3) := by decide +kernel
theorem dX10_told_100 : decode cX10_told 100 = .ok (.iload_n 1, 1) := by decide +kernel
theorem dX10_told_101 : decode cX10_told 101 = .ok (.bipush 10, 2) := by decide +kernel
theorem dX10_told_103 : decode cX10_told 103 = .ok (.isub, 1) := by decide +kernel
theorem dX10_told_104 : decode cX10_told 104 = .ok (.iaload, 1) := by decide +kernel
theorem dX10_told_105 : decode cX10_told 105 = .ok (.ireturn, 1) := by decide +kernel
theorem dX10_told_106 : decode cX10_told 106 = .ok (.iload_n 1, 1) := by decide +kernel
theorem dX10_told_107 : decode cX10_told 107 = .ok (.bipush 30, 2) := by decide +kernel
theorem dX10_told_109 : decode cX10_told 109 = .ok (.isub, 1) := by decide +kernel
theorem dX10_told_110 : decode cX10_told 110 = .ok (.invokestatic 143, 3) := by decide +kernel
theorem dX10_told_113 : decode cX10_told 113 = .ok (.ifCond .eq 18, 3) := by decide +kernel
theorem dX10_told_116 : decode cX10_told 116 = .ok (.aload_n 0, 1) := by decide +kernel
theorem dX10_told_117 : decode cX10_told 117 = .ok (.getfield 23, 3) := by decide +kernel
theorem dX10_told_120 : decode cX10_told 120 = .ok (.getfield 149, 3) := by decide +kernel
theorem dX10_told_123 : decode cX10_told 123 = .ok (.iload_n 1, 1) := by decide +kernel
theorem dX10_told_124 : decode cX10_told 124 = .ok (.bipush 30, 2) := by decide +kernel
theorem dX10_told_126 : decode cX10_told 126 = .ok (.isub, 1) := by decide +kernel
theorem dX10_told_127 : decode cX10_told 127 = .ok (.iaload, 1) := by decide +kernel
theorem dX10_told_128 : decode cX10_told 128 = .ok (.goto 4, 3) := by decide +kernel
theorem dX10_told_131 : decode cX10_told 131 = .ok (.iconst (-1), 1) := by decide +kernel
theorem dX10_told_132 : decode cX10_told 132 = .ok (.ireturn, 1) := by decide +kernel
theorem dX10_pass_0 : decode cX10_pass 0 = .ok (.iload_n 1, 1) := by decide +kernel
theorem dX10_pass_1 : decode cX10_pass 1 = .ok (.bipush 60, 2) := by decide +kernel
theorem dX10_pass_3 : decode cX10_pass 3 = .ok (.invokestatic 89, 3) := by decide +kernel
theorem dX10_pass_6 : decode cX10_pass 6 = .ok (.ifCond .ne 6, 3) := by decide +kernel
theorem dX10_pass_9 : decode cX10_pass 9 = .ok (.bipush (-2), 2) := by decide +kernel
theorem dX10_pass_11 : decode cX10_pass 11 = .ok (.ireturn, 1) := by decide +kernel
theorem dX10_pass_12 : decode cX10_pass 12 = .ok (.aload_n 0, 1) := by decide +kernel
theorem dX10_pass_13 : decode cX10_pass 13 = .ok (.getfield 23, 3) := by decide +kernel
theorem dX10_pass_16 : decode cX10_pass 16 = .ok (.getfield 129, 3) := by decide +kernel
theorem dX10_pass_19 : decode cX10_pass 19 = .ok (.iload_n 1, 1) := by decide +kernel
theorem dX10_pass_20 : decode cX10_pass 20 = .ok (.iadd, 1) := by decide +kernel
theorem dX10_pass_21 : decode cX10_pass 21 = .ok (.sipush 9999, 3) := by decide +kernel
theorem dX10_pass_24 : decode cX10_pass 24 = .ok (.if_icmp .le 6, 3) := by decide +kernel
theorem dX10_pass_27 : decode cX10_pass 27 = .ok (.bipush (-3), 2) := by decide +kernel
theorem dX10_pass_29 : decode cX10_pass 29 = .ok (.ireturn, 1) := by decide +kernel
theorem dX10_pass_30 : decode cX10_pass 30 = .ok (.aload_n 0, 1) := by decide +kernel
theorem dX10_pass_31 : decode cX10_pass 31 = .ok (.aload_n 0, 1) := by decide +kernel
theorem dX10_pass_32 : decode cX10_pass 32 = .ok (.getfield 23, 3) := by decide +kernel
theorem dX10_pass_35 : decode cX10_pass 35 = .ok (.invokevirtual 198, 3) := by decide +kernel
theorem dX10_pass_38 : decode cX10_pass 38 = .ok (.iconst 0, 1) := by decide +kernel
theorem dX10_pass_39 : decode cX10_pass 39 = .ok (.istore_n 2, 1) := by decide +kernel
theorem dX10_pass_40 : decode cX10_pass 40 = .ok (.iload_n 2, 1) := by decide +kernel
theorem dX10_pass_41 : decode cX10_pass 41 = .ok (.iload_n 1, 1) := by decide +kernel
theorem dX10_pass_42 : decode cX10_pass 42 = .ok (.if_icmp .ge 17, 3) := by decide +kernel
theorem dX10_pass_45 : decode cX10_pass 45 = .ok (.aload_n 0, 1) := by decide +kernel
theorem dX10_pass_46 : decode cX10_pass 46 = .ok (.aload_n 0, 1) := by decide +kernel
theorem dX10_pass_47 : decode cX10_pass 47 = .ok (.getfield 23, 3) := by decide +kernel
theorem dX10_pass_50 : decode cX10_pass 50 = .ok (.invokevirtual 202, 3) := by decide +kernel
theorem dX10_pass_53 : decode cX10_pass 53 = .ok (.iinc 2 1, 3) := by decide +kernel
theorem dX10_pass_56 : decode cX10_pass 56 = .ok (.goto (-16), 3) := by decide +kernel
theorem dX10_pass_59 : decode cX10_pass 59 = .ok (.aload_n 0, 1) := by decide +kernel
theorem dX10_pass_60 : decode cX10_pass 60 = .ok (.getfield 23, 3) := by decide +kernel
theorem dX10_pass_63 : decode cX10_pass 63 = .ok (.getfield 129, 3) := by decide +kernel
theorem dX10_pass_66 : decode cX10_pass 66 = .ok (.ireturn, 1) := by decide +kernel
theorem dX10_on_0 : decode cX10_on 0 = .ok (.aload_n 0, 1) := by decide +kernel
theorem dX10_on_1 : decode cX10_on 1 = .ok (.iload_n 2, 1) := by decide +kernel
theorem dX10_on_2 : decode cX10_on 2 = .ok (.bipush 30, 2) := by decide +kernel
theorem dX10_on_4 : decode cX10_on 4 = .ok (.isub, 1) := by decide +kernel
theorem dX10_on_5 : decode cX10_on 5 = .ok (.invokevirtual 105, 3) := by decide +kernel
theorem dX10_on_8 : decode cX10_on 8 = .ok (.istore_n 3, 1) := by decide +kernel
theorem dX10_on_9 : decode cX10_on 9 = .ok (.iload_n 2, 1) := by decide +kernel
theorem dX10_on_10 : decode cX10_on 10 = .ok (.bipush 10, 2) := by decide +kernel
theorem dX10_on_12 : decode cX10_on 12 = .ok (.isub, 1) := by decide +kernel
theorem dX10_on_13 : decode cX10_on 13 = .ok (.invokestatic 143, 3) := by decide +kernel
theorem dX10_on_16 : decode cX10_on 16 = .ok (.istore 4, 2) := by decide +kernel
theorem dX10_on_18 : decode cX10_on 18 = .ok (.iload_n 2, 1) := by decide +kernel
theorem dX10_on_19 : decode cX10_on 19 = .ok (.ifCond .eq 14, 3) := by decide +kernel
theorem dX10_on_22 : decode cX10_on 22 = .ok (.iload 4, 2) := by decide +kernel
theorem dX10_on_24 : decode cX10_on 24 = .ok (.ifCond .ne 9, 3) := by decide +kernel
theorem dX10_on_27 : decode cX10_on 27 = .ok (.iload_n 3, 1) := by decide +kernel
theorem dX10_on_28 : decode cX10_on 28 = .ok (.ifCond .ne 5, 3) := by decide +kernel
theorem dX10_on_31 : decode cX10_on 31 = .ok (.iconst (-1), 1) := by decide +kernel
theorem dX10_on_32 : decode cX10_on 32 = .ok (.ireturn, 1) := by decide +kernel
theorem dX10_on_33 : decode cX10_on 33 = .ok (.iload_n 1, 1) := by decide +kernel
theorem dX10_on_34 : decode cX10_on 34 = .ok (.bipush 60, 2) := by decide +kernel
theorem dX10_on_36 : decode cX10_on 36 = .ok (.invokestatic 89, 3) := by decide +kernel
theorem dX10_on_39 : decode cX10_on 39 = .ok (.ifCond .ne 6, 3) := by decide +kernel
theorem dX10_on_42 : decode cX10_on 42 = .ok (.bipush (-2), 2) := by decide +kernel
theorem dX10_on_44 : decode cX10_on 44 = .ok (.ireturn, 1) := by decide +kernel
theorem dX10_on_45 : decode cX10_on 45 = .ok (.aload_n 0, 1) := by decide +kernel
theorem dX10_on_46 : decode cX10_on 46 = .ok (.iload_n 1, 1) := by decide +kernel
theorem dX10_on_47 : decode cX10_on 47 = .ok (.invokevirtual 205, 3) := by decide +kernel
theorem dX10_on_50 : decode cX10_on 50 = .ok (.astore 5, 2) := by decide +kernel
theorem dX10_on_52 : decode cX10_on 52 = .ok (.iload_n 3, 1) := by decide +kernel
theorem dX10_on_53 : decode cX10_on 53 = .ok (.ifCond .eq 17, 3) := by decide +kernel
theorem dX10_on_56 : decode cX10_on 56 = .ok (.aload 5, 2) := by decide +kernel
theorem dX10_on_58 : decode cX10_on 58 = .ok (.getfield 77, 3) := by decide +kernel
theorem dX10_on_61 : decode cX10_on 61 = .ok (.iload_n 2, 1) := by decide +kernel
theorem dX10_on_62 : decode cX10_on 62 = .ok (.bipush 30, 2) := by decide +kernel
theorem dX10_on_64 : decode cX10_on 64 = .ok (.isub, 1) := by decide +kernel
theorem dX10_on_65 : decode cX10_on 65 = .ok (.aaload, 1) := by decide +kernel
theorem dX10_on_66 : decode cX10_on 66 = .ok (.getfield 115, 3) := by decide +kernel
theorem dX10_on_69 : decode cX10_on 69 = .ok (.ireturn, 1) := by decide +kernel
theorem dX10_on_70 : decode cX10_on 70 = .ok (.iload 4, 2) := by decide +kernel
theorem dX10_on_72 : decode cX10_on 72 = .ok (.ifCond .eq 16, 3) := by decide +kernel
theorem dX10_on_75 : decode cX10_on 75 = .ok (.aload 5, 2) := by decide +kernel
theorem dX10_on_77 : decode cX10_on 77 = .ok (.getfield 160, 3) := by decide +kernel
theorem dX10_on_80 : decode cX10_on 80 = .ok (.iload_n 2, 1) := by decide +kernel
theorem dX10_on_81 : decode cX10_on 81 = .ok (.bipush 10, 2) := by decide +kernel
theorem dX10_on_83 : decode cX10_on 83 = .ok (.isub, 1) := by decide +kernel
theorem dX10_on_84 : decode cX10_on 84 = .ok (.iaload, 1) := by decide +kernel
theorem dX10_on_85 : decode cX10_on 85 = .ok (.goto 8, 3) := by decide +kernel
theorem dX10_on_88 : decode cX10_on 88 = .ok (.aload 5, 2) := by decide +kernel
theorem dX10_on_90 : decode cX10_on 90 = .ok (.invokevirtual 188, 3) := by decide +kernel
theorem dX10_on_93 : decode cX10_on 93 = .ok (.ireturn, 1) := by decide +kernel
theorem dX10_lasts_0 : decode cX10_lasts 0 = .ok (.aload_n 0, 1) := by decide +kernel
theorem dX10_lasts_1 : decode cX10_lasts 1 = .ok (.iload_n 1, 1) := by decide +kernel
theorem dX10_lasts_2 : decode cX10_lasts 2 = .ok (.invokevirtual 105, 3) := by decide +kernel
theorem dX10_lasts_5 : decode cX10_lasts 5 = .ok (.ifCond .eq 10, 3) := by decide +kernel
theorem dX10_lasts_8 : decode cX10_lasts 8 = .ok (.iload_n 2, 1) := by decide +kernel
theorem dX10_lasts_9 : decode cX10_lasts 9 = .ok (.invokestatic 143, 3) := by decide +kernel
theorem dX10_lasts_12 : decode cX10_lasts 12 = .ok (.ifCond .ne 5, 3) := by decide +kernel
theorem dX10_lasts_15 : decode cX10_lasts 15 = .ok (.iconst (-1), 1) := by decide +kernel
theorem dX10_lasts_16 : decode cX10_lasts 16 = .ok (.ireturn, 1) := by decide +kernel
theorem dX10_lasts_17 : decode cX10_lasts 17 = .ok (.aload_n 0, 1) := by decide +kernel
theorem dX10_lasts_18 : decode cX10_lasts 18 = .ok (.getfield 23, 3) := by decide +kernel
theorem dX10_lasts_21 : decode cX10_lasts 21 = .ok (.getfield 77, 3) := by decide +kernel
theorem dX10_lasts_24 : decode cX10_lasts 24 = .ok (.iload_n 1, 1) := by decide +kernel
theorem dX10_lasts_25 : decode cX10_lasts 25 = .ok (.aaload, 1) := by decide +kernel
theorem dX10_lasts_26 : decode cX10_lasts 26 = .ok (.astore_n 3, 1) := by decide +kernel
theorem dX10_lasts_27 : decode cX10_lasts 27 = .ok (.aload_n 3, 1) := by decide +kernel
theorem dX10_lasts_28 : decode cX10_lasts 28 = .ok (.getfield 115, 3) := by decide +kernel
theorem dX10_lasts_31 : decode cX10_lasts 31 = .ok (.iload_n 2, 1) := by decide +kernel
theorem dX10_lasts_32 : decode cX10_lasts 32 = .ok (.invokestatic 157, 3) := by decide +kernel
theorem dX10_lasts_35 : decode cX10_lasts 35 = .ok (.ifCond .ne 6, 3) := by decide +kernel
theorem dX10_lasts_38 : decode cX10_lasts 38 = .ok (.bipush (-5), 2) := by decide +kernel
theorem dX10_lasts_40 : decode cX10_lasts 40 = .ok (.ireturn, 1) := by decide +kernel
theorem dX10_lasts_41 : decode cX10_lasts 41 = .ok (.aload_n 0, 1) := by decide +kernel
theorem dX10_lasts_42 : decode cX10_lasts 42 = .ok (.aload_n 3, 1) := by decide +kernel
theorem dX10_lasts_43 : decode cX10_lasts 43 = .ok (.invokevirtual 125, 3) := by decide +kernel
theorem dX10_lasts_46 : decode cX10_lasts 46 = .ok (.astore 4, 2) := by decide +kernel
theorem dX10_lasts_48 : decode cX10_lasts 48 = .ok (.aload_n 3, 1) := by decide +kernel
theorem dX10_lasts_49 : decode cX10_lasts 49 = .ok (.getfield 115, 3) := by decide +kernel
theorem dX10_lasts_52 : decode cX10_lasts 52 = .ok (.istore 5, 2) := by decide +kernel
theorem dX10_lasts_54 : decode cX10_lasts 54 = .ok (.iconst 1, 1) := by decide +kernel
theorem dX10_lasts_55 : decode cX10_lasts 55 = .ok (.istore 6, 2) := by decide +kernel
theorem dX10_lasts_57 : decode cX10_lasts 57 = .ok (.iload 6, 2) := by decide +kernel
theorem dX10_lasts_59 : decode cX10_lasts 59 = .ok (.bipush 60, 2) := by decide +kernel
theorem dX10_lasts_61 : decode cX10_lasts 61 = .ok (.if_icmp .gt 47, 3) := by decide +kernel
theorem dX10_lasts_64 : decode cX10_lasts 64 = .ok (.iload 5, 2) := by decide +kernel
theorem dX10_lasts_66 : decode cX10_lasts 66 = .ok (.aload 4, 2) := by decide +kernel
theorem dX10_lasts_68 : decode cX10_lasts 68 = .ok (.iload 5, 2) := by decide +kernel
theorem dX10_lasts_70 : decode cX10_lasts 70 = .ok (.aload_n 0, 1) := by decide +kernel
theorem dX10_lasts_71 : decode cX10_lasts 71 = .ok (.getfield 23, 3) := by decide +kernel
theorem dX10_lasts_74 : decode cX10_lasts 74 = .ok (.getfield 129, 3) := by decide +kernel
theorem dX10_lasts_77 : decode cX10_lasts 77 = .ok (.iload 6, 2) := by decide +kernel
theorem dX10_lasts_79 : decode cX10_lasts 79 = .ok (.iadd, 1) := by decide +kernel
theorem dX10_lasts_80 : decode cX10_lasts 80 = .ok (.iconst 1, 1) := by decide +kernel
theorem dX10_lasts_81 : decode cX10_lasts 81 = .ok (.isub, 1) := by decide +kernel
theorem dX10_lasts_82 : decode cX10_lasts 82 = .ok (.invokevirtual 132, 3) := by decide +kernel
theorem dX10_lasts_85 : decode cX10_lasts 85 = .ok (.invokestatic 209, 3) := by decide +kernel
theorem dX10_lasts_88 : decode cX10_lasts 88 = .ok (.istore 5, 2) := by decide +kernel
theorem dX10_lasts_90 : decode cX10_lasts 90 = .ok (.iload 5, 2) := by decide +kernel
theorem dX10_lasts_92 : decode cX10_lasts 92 = .ok (.iload_n 2, 1) := by decide +kernel
theorem dX10_lasts_93 : decode cX10_lasts 93 = .ok (.invokestatic 157, 3) := by decide +kernel
theorem dX10_lasts_96 : decode cX10_lasts 96 = .ok (.ifCond .ne 6, 3) := by decide +kernel
theorem dX10_lasts_99 : decode cX10_lasts 99 = .ok (.iload 6, 2) := by decide +kernel
theorem dX10_lasts_101 : decode cX10_lasts 101 = .ok (.ireturn, 1) := by decide +kernel
theorem dX10_lasts_102 : decode cX10_lasts 102 = .ok (.iinc 6 1, 3) := by decide +kernel
theorem dX10_lasts_105 : decode cX10_lasts 105 = .ok (.goto (-48), 3) := by decide +kernel
theorem dX10_lasts_108 : decode cX10_lasts 108 = .ok (.bipush (-5), 2) := by decide +kernel
theorem dX10_lasts_110 : decode cX10_lasts 110 = .ok (.ireturn, 1) := by decide +kernel
theorem dX10_decoys_0 : decode cX10_decoys 0 = .ok (.aload_n 0, 1) := by decide +kernel
theorem dX10_decoys_1 : decode cX10_decoys 1 = .ok (.iload_n 1, 1) := by decide +kernel
theorem dX10_decoys_2 : decode cX10_decoys 2 = .ok (.invokevirtual 105, 3) := by decide +kernel
theorem dX10_decoys_5 : decode cX10_decoys 5 = .ok (.ifCond .eq 10, 3) := by decide +kernel
theorem dX10_decoys_8 : decode cX10_decoys 8 = .ok (.iload_n 2, 1) := by decide +kernel
theorem dX10_decoys_9 : decode cX10_decoys 9 = .ok (.invokestatic 143, 3) := by decide +kernel
theorem dX10_decoys_12 : decode cX10_decoys 12 = .ok (.ifCond .ne 5, 3) := by decide +kernel
theorem dX10_decoys_15 : decode cX10_decoys 15 = .ok (.iconst (-1), 1) := by decide +kernel
theorem dX10_decoys_16 : decode cX10_decoys 16 = .ok (.ireturn, 1) := by decide +kernel
theorem dX10_decoys_17 : decode cX10_decoys 17 = .ok (.iload_n 3, 1) := by decide +kernel
theorem dX10_decoys_18 : decode cX10_decoys 18 = .ok (.iconst 1, 1) := by decide +kernel
theorem dX10_decoys_19 : decode cX10_decoys 19 = .ok (.if_icmp .lt 9, 3) := by decide +kernel
theorem dX10_decoys_22 : decode cX10_decoys 22 = .ok (.iload_n 3, 1) := by decide +kernel
theorem dX10_decoys_23 : decode cX10_decoys 23 = .ok (.bipush 6, 2) := by decide +kernel
theorem dX10_decoys_25 : decode cX10_decoys 25 = .ok (.if_icmp .le 6, 3) := by decide +kernel
theorem dX10_decoys_28 : decode cX10_decoys 28 = .ok (.bipush (-2), 2) := by decide +kernel
theorem dX10_decoys_30 : decode cX10_decoys 30 = .ok (.ireturn, 1) := by decide +kernel
theorem dX10_decoys_31 : decode cX10_decoys 31 = .ok (.aload_n 0, 1) := by decide +kernel
theorem dX10_decoys_32 : decode cX10_decoys 32 = .ok (.getfield 23, 3) := by decide +kernel
theorem dX10_decoys_35 : decode cX10_decoys 35 = .ok (.getfield 77, 3) := by decide +kernel
theorem dX10_decoys_38 : decode cX10_decoys 38 = .ok (.iload_n 1, 1) := by decide +kernel
theorem dX10_decoys_39 : decode cX10_decoys 39 = .ok (.aaload, 1) := by decide +kernel
theorem dX10_decoys_40 : decode cX10_decoys 40 = .ok (.astore 4, 2) := by decide +kernel
theorem dX10_decoys_42 : decode cX10_decoys 42 = .ok (.aload 4, 2) := by decide +kernel
theorem dX10_decoys_44 : decode cX10_decoys 44 = .ok (.getfield 115, 3) := by decide +kernel
theorem dX10_decoys_47 : decode cX10_decoys 47 = .ok (.iload_n 2, 1) := by decide +kernel
theorem dX10_decoys_48 : decode cX10_decoys 48 = .ok (.invokestatic 157, 3) := by decide +kernel
theorem dX10_decoys_51 : decode cX10_decoys 51 = .ok (.ifCond .eq 14, 3) := by decide +kernel
theorem dX10_decoys_54 : decode cX10_decoys 54 = .ok (.aload_n 0, 1) := by decide +kernel
theorem dX10_decoys_55 : decode cX10_decoys 55 = .ok (.aload 4, 2) := by decide +kernel
theorem dX10_decoys_57 : decode cX10_decoys 57 = .ok (.iload_n 2, 1) := by decide +kernel
theorem dX10_decoys_58 : decode cX10_decoys 58 = .ok (.iload_n 3, 1) := by decide +kernel
theorem dX10_decoys_59 : decode cX10_decoys 59 = .ok (.invokevirtual 212, 3) := by decide +kernel
theorem dX10_decoys_62 : decode cX10_decoys 62 = .ok (.goto 5, 3) := by decide +kernel
theorem dX10_decoys_65 : decode cX10_decoys 65 = .ok (.bipush (-5), 2) := by decide +kernel
theorem dX10_decoys_67 : decode cX10_decoys 67 = .ok (.ireturn, 1) := by decide +kernel
theorem dX10_see_0 : decode cX10_see 0 = .ok (.iload_n 1, 1) := by decide +kernel
theorem dX10_see_1 : decode cX10_see 1 = .ok (.iconst (-1), 1) := by decide +kernel
theorem dX10_see_2 : decode cX10_see 2 = .ok (.if_icmp .ne 16, 3) := by decide +kernel
theorem dX10_see_5 : decode cX10_see 5 = .ok (.aload_n 0, 1) := by decide +kernel
theorem dX10_see_6 : decode cX10_see 6 = .ok (.getfield 23, 3) := by decide +kernel
theorem dX10_see_9 : decode cX10_see 9 = .ok (.getfield 216, 3) := by decide +kernel
theorem dX10_see_12 : decode cX10_see 12 = .ok (.iconst 0, 1) := by decide +kernel
theorem dX10_see_13 : decode cX10_see 13 = .ok (.putfield 220, 3) := by decide +kernel
theorem dX10_see_16 : decode cX10_see 16 = .ok (.iconst 0, 1) := by decide +kernel
theorem dX10_see_17 : decode cX10_see 17 = .ok (.ireturn, 1) := by decide +kernel
theorem dX10_see_18 : decode cX10_see 18 = .ok (.aload_n 0, 1) := by decide +kernel
theorem dX10_see_19 : decode cX10_see 19 = .ok (.iload_n 1, 1) := by decide +kernel
theorem dX10_see_20 : decode cX10_see 20 = .ok (.invokevirtual 105, 3) := by decide +kernel
theorem dX10_see_23 : decode cX10_see 23 = .ok (.ifCond .eq 10, 3) := by decide +kernel
theorem dX10_see_26 : decode cX10_see 26 = .ok (.iload_n 3, 1) := by decide +kernel
theorem dX10_see_27 : decode cX10_see 27 = .ok (.invokestatic 143, 3) := by decide +kernel
theorem dX10_see_30 : decode cX10_see 30 = .ok (.ifCond .ne 5, 3) := by decide +kernel
theorem dX10_see_33 : decode cX10_see 33 = .ok (.iconst (-1), 1) := by decide +kernel
theorem dX10_see_34 : decode cX10_see 34 = .ok (.ireturn, 1) := by decide +kernel
theorem dX10_see_35 : decode cX10_see 35 = .ok (.iload_n 2, 1) := by decide +kernel
theorem dX10_see_36 : decode cX10_see 36 = .ok (.bipush 12, 2) := by decide +kernel
theorem dX10_see_38 : decode cX10_see 38 = .ok (.invokestatic 89, 3) := by decide +kernel
theorem dX10_see_41 : decode cX10_see 41 = .ok (.ifCond .ne 6, 3) := by decide +kernel
theorem dX10_see_44 : decode cX10_see 44 = .ok (.bipush (-2), 2) := by decide +kernel
theorem dX10_see_46 : decode cX10_see 46 = .ok (.ireturn, 1) := by decide +kernel
theorem dX10_see_47 : decode cX10_see 47 = .ok (.aload_n 0, 1) := by decide +kernel
theorem dX10_see_48 : decode cX10_see 48 = .ok (.getfield 23, 3) := by decide +kernel
theorem dX10_see_51 : decode cX10_see 51 = .ok (.getfield 216, 3) := by decide +kernel
theorem dX10_see_54 : decode cX10_see 54 = .ok (.iload_n 1, 1) := by decide +kernel
theorem dX10_see_55 : decode cX10_see 55 = .ok (.iload_n 2, 1) := by decide +kernel
theorem dX10_see_56 : decode cX10_see 56 = .ok (.iload_n 3, 1) := by decide +kernel
theorem dX10_see_57 : decode cX10_see 57 = .ok (.iload 4, 2) := by decide +kernel
theorem dX10_see_59 : decode cX10_see 59 = .ok (.ifCond .eq 7, 3) := by decide +kernel
theorem dX10_see_62 : decode cX10_see 62 = .ok (.iconst 1, 1) := by decide +kernel
theorem dX10_see_63 : decode cX10_see 63 = .ok (.goto 4, 3) := by decide +kernel
theorem dX10_see_66 : decode cX10_see 66 = .ok (.iconst 0, 1) := by decide +kernel
theorem dX10_see_67 : decode cX10_see 67 = .ok (.invokevirtual 225, 3) := by decide +kernel
theorem dX10_see_70 : decode cX10_see 70 = .ok (.ireturn, 1) := by decide +kernel
theorem dX10_meant_0 : decode cX10_meant 0 = .ok (.aload_n 0, 1) := by decide +kernel
theorem dX10_meant_1 : decode cX10_meant 1 = .ok (.iload_n 1, 1) := by decide +kernel
theorem dX10_meant_2 : decode cX10_meant 2 = .ok (.invokevirtual 105, 3) := by decide +kernel
theorem dX10_meant_5 : decode cX10_meant 5 = .ok (.ifCond .eq 11, 3) := by decide +kernel
theorem dX10_meant_8 : decode cX10_meant 8 = .ok (.iload_n 2, 1) := by decide +kernel
theorem dX10_meant_9 : decode cX10_meant 9 = .ok (.iconst 2, 1) := by decide +kernel
theorem dX10_meant_10 : decode cX10_meant 10 = .ok (.invokestatic 85, 3) := by decide +kernel
theorem dX10_meant_13 : decode cX10_meant 13 = .ok (.ifCond .ne 5, 3) := by decide +kernel
theorem dX10_meant_16 : decode cX10_meant 16 = .ok (.iconst (-1), 1) := by decide +kernel
theorem dX10_meant_17 : decode cX10_meant 17 = .ok (.ireturn, 1) := by decide +kernel
theorem dX10_meant_18 : decode cX10_meant 18 = .ok (.aload_n 0, 1) := by decide +kernel
theorem dX10_meant_19 : decode cX10_meant 19 = .ok (.aload_n 0, 1) := by decide +kernel
theorem dX10_meant_20 : decode cX10_meant 20 = .ok (.getfield 23, 3) := by decide +kernel
theorem dX10_meant_23 : decode cX10_meant 23 = .ok (.getfield 77, 3) := by decide +kernel
theorem dX10_meant_26 : decode cX10_meant 26 = .ok (.iload_n 1, 1) := by decide +kernel
theorem dX10_meant_27 : decode cX10_meant 27 = .ok (.aaload, 1) := by decide +kernel
theorem dX10_meant_28 : decode cX10_meant 28 = .ok (.invokevirtual 125, 3) := by decide +kernel
theorem dX10_meant_31 : decode cX10_meant 31 = .ok (.astore_n 3, 1) := by decide +kernel
theorem dX10_meant_32 : decode cX10_meant 32 = .ok (.aload_n 0, 1) := by decide +kernel
theorem dX10_meant_33 : decode cX10_meant 33 = .ok (.getfield 53, 3) := by decide +kernel
theorem dX10_meant_36 : decode cX10_meant 36 = .ok (.aload_n 0, 1) := by decide +kernel
theorem dX10_meant_37 : decode cX10_meant 37 = .ok (.getfield 23, 3) := by decide +kernel
theorem dX10_meant_40 : decode cX10_meant 40 = .ok (.getfield 216, 3) := by decide +kernel
theorem dX10_meant_43 : decode cX10_meant 43 = .ok (.iload_n 1, 1) := by decide +kernel
theorem dX10_meant_44 : decode cX10_meant 44 = .ok (.invokevirtual 229, 3) := by decide +kernel
theorem dX10_meant_47 : decode cX10_meant 47 = .ok (.iconst 0, 1) := by decide +kernel
theorem dX10_meant_48 : decode cX10_meant 48 = .ok (.istore 4, 2) := by decide +kernel
theorem dX10_meant_50 : decode cX10_meant 50 = .ok (.bipush (-5), 2) := by decide +kernel
theorem dX10_meant_52 : decode cX10_meant 52 = .ok (.istore 5, 2) := by decide +kernel
theorem dX10_meant_54 : decode cX10_meant 54 = .ok (.sipush 4095, 3) := by decide +kernel
theorem dX10_meant_57 : decode cX10_meant 57 = .ok (.istore 6, 2) := by decide +kernel
theorem dX10_meant_59 : decode cX10_meant 59 = .ok (.iload 6, 2) := by decide +kernel
theorem dX10_meant_61 : decode cX10_meant 61 = .ok (.ifCond .lt 36, 3) := by decide +kernel
theorem dX10_meant_64 : decode cX10_meant 64 = .ok (.aload_n 0, 1) := by decide +kernel
theorem dX10_meant_65 : decode cX10_meant 65 = .ok (.getfield 53, 3) := by decide +kernel
theorem dX10_meant_68 : decode cX10_meant 68 = .ok (.aload_n 3, 1) := by decide +kernel
theorem dX10_meant_69 : decode cX10_meant 69 = .ok (.iload 6, 2) := by decide +kernel
theorem dX10_meant_71 : decode cX10_meant 71 = .ok (.aload_n 0, 1) := by decide +kernel
theorem dX10_meant_72 : decode cX10_meant 72 = .ok (.getfield 23, 3) := by decide +kernel
theorem dX10_meant_75 : decode cX10_meant 75 = .ok (.getfield 129, 3) := by decide +kernel
theorem dX10_meant_78 : decode cX10_meant 78 = .ok (.invokevirtual 233, 3) := by decide +kernel
theorem dX10_meant_81 : decode cX10_meant 81 = .ok (.ifCond .eq 10, 3) := by decide +kernel
theorem dX10_meant_84 : decode cX10_meant 84 = .ok (.iinc 4 1, 3) := by decide +kernel
theorem dX10_meant_87 : decode cX10_meant 87 = .ok (.iload 6, 2) := by decide +kernel
theorem dX10_meant_89 : decode cX10_meant 89 = .ok (.istore 5, 2) := by decide +kernel
theorem dX10_meant_91 : decode cX10_meant 91 = .ok (.iinc 6 (-1), 3) := by decide +kernel
theorem dX10_meant_94 : decode cX10_meant 94 = .ok (.goto (-35), 3) := by decide +kernel
theorem dX10_meant_97 : decode cX10_meant 97 = .ok (.iload_n 2, 1) := by decide +kernel
theorem dX10_meant_98 : decode cX10_meant 98 = .ok (.ifCond .ne 8, 3) := by decide +kernel
theorem dX10_meant_101 : decode cX10_meant 101 = .ok (.iload 4, 2) := by decide +kernel
theorem dX10_meant_103 : decode cX10_meant 103 = .ok (.goto 5, 3) := by decide +kernel
theorem dX10_meant_106 : decode cX10_meant 106 = .ok (.iload 5, 2) := by decide +kernel
theorem dX10_meant_108 : decode cX10_meant 108 = .ok (.ireturn, 1) := by decide +kernel
theorem dX10_can_0 : decode cX10_can 0 = .ok (.aload_n 0, 1) := by decide +kernel
theorem dX10_can_1 : decode cX10_can 1 = .ok (.iload_n 1, 1) := by decide +kernel
theorem dX10_can_2 : decode cX10_can 2 = .ok (.invokevirtual 105, 3) := by decide +kernel
theorem dX10_can_5 : decode cX10_can 5 = .ok (.ifCond .eq 11, 3) := by decide +kernel
theorem dX10_can_8 : decode cX10_can 8 = .ok (.iload_n 2, 1) := by decide +kernel
theorem dX10_can_9 : decode cX10_can 9 = .ok (.iconst 2, 1) := by decide +kernel
theorem dX10_can_10 : decode cX10_can 10 = .ok (.invokestatic 85, 3) := by decide +kernel
theorem dX10_can_13 : decode cX10_can 13 = .ok (.ifCond .ne 5, 3) := by decide +kernel
theorem dX10_can_16 : decode cX10_can 16 = .ok (.iconst (-1), 1) := by decide +kernel
theorem dX10_can_17 : decode cX10_can 17 = .ok (.ireturn, 1) := by decide +kernel
theorem dX10_can_18 : decode cX10_can 18 = .ok (.aload_n 0, 1) := by decide +kernel
theorem dX10_can_19 : decode cX10_can 19 = .ok (.getfield 30, 3) := by decide +kernel
theorem dX10_can_22 : decode cX10_can 22 = .ok (.getfield 77, 3) := by decide +kernel
theorem dX10_can_25 : decode cX10_can 25 = .ok (.iload_n 1, 1) := by decide +kernel
theorem dX10_can_26 : decode cX10_can 26 = .ok (.aaload, 1) := by decide +kernel
theorem dX10_can_27 : decode cX10_can 27 = .ok (.astore_n 3, 1) := by decide +kernel
theorem dX10_can_28 : decode cX10_can 28 = .ok (.aload_n 3, 1) := by decide +kernel
theorem dX10_can_29 : decode cX10_can 29 = .ok (.aload_n 0, 1) := by decide +kernel
theorem dX10_can_30 : decode cX10_can 30 = .ok (.getfield 23, 3) := by decide +kernel
theorem dX10_can_33 : decode cX10_can 33 = .ok (.getfield 77, 3) := by decide +kernel
theorem dX10_can_36 : decode cX10_can 36 = .ok (.iload_n 1, 1) := by decide +kernel
theorem dX10_can_37 : decode cX10_can 37 = .ok (.aaload, 1) := by decide +kernel
theorem dX10_can_38 : decode cX10_can 38 = .ok (.invokevirtual 237, 3) := by decide +kernel
theorem dX10_can_41 : decode cX10_can 41 = .ok (.aload_n 0, 1) := by decide +kernel
theorem dX10_can_42 : decode cX10_can 42 = .ok (.getfield 53, 3) := by decide +kernel
theorem dX10_can_45 : decode cX10_can 45 = .ok (.aload_n 0, 1) := by decide +kernel
theorem dX10_can_46 : decode cX10_can 46 = .ok (.getfield 23, 3) := by decide +kernel
theorem dX10_can_49 : decode cX10_can 49 = .ok (.getfield 216, 3) := by decide +kernel
theorem dX10_can_52 : decode cX10_can 52 = .ok (.iload_n 1, 1) := by decide +kernel
theorem dX10_can_53 : decode cX10_can 53 = .ok (.invokevirtual 229, 3) := by decide +kernel
theorem dX10_can_56 : decode cX10_can 56 = .ok (.iconst 0, 1) := by decide +kernel
theorem dX10_can_57 : decode cX10_can 57 = .ok (.istore 4, 2) := by decide +kernel
theorem dX10_can_59 : decode cX10_can 59 = .ok (.bipush (-5), 2) := by decide +kernel
theorem dX10_can_61 : decode cX10_can 61 = .ok (.istore 5, 2) := by decide +kernel
theorem dX10_can_63 : decode cX10_can 63 = .ok (.bipush 9, 2) := by decide +kernel
theorem dX10_can_65 : decode cX10_can 65 = .ok (.istore 6, 2) := by decide +kernel
theorem dX10_can_67 : decode cX10_can 67 = .ok (.iload 6, 2) := by decide +kernel
theorem dX10_can_69 : decode cX10_can 69 = .ok (.ifCond .lt 48, 3) := by decide +kernel
theorem dX10_can_72 : decode cX10_can 72 = .ok (.aload_n 3, 1) := by decide +kernel
theorem dX10_can_73 : decode cX10_can 73 = .ok (.iload 6, 2) := by decide +kernel
theorem dX10_can_75 : decode cX10_can 75 = .ok (.putfield 112, 3) := by decide +kernel
theorem dX10_can_78 : decode cX10_can 78 = .ok (.aload_n 0, 1) := by decide +kernel
theorem dX10_can_79 : decode cX10_can 79 = .ok (.getfield 53, 3) := by decide +kernel
theorem dX10_can_82 : decode cX10_can 82 = .ok (.aload_n 0, 1) := by decide +kernel
theorem dX10_can_83 : decode cX10_can 83 = .ok (.aload_n 3, 1) := by decide +kernel
theorem dX10_can_84 : decode cX10_can 84 = .ok (.invokevirtual 125, 3) := by decide +kernel
theorem dX10_can_87 : decode cX10_can 87 = .ok (.aload_n 3, 1) := by decide +kernel
theorem dX10_can_88 : decode cX10_can 88 = .ok (.getfield 115, 3) := by decide +kernel
theorem dX10_can_91 : decode cX10_can 91 = .ok (.aload_n 0, 1) := by decide +kernel
theorem dX10_can_92 : decode cX10_can 92 = .ok (.getfield 23, 3) := by decide +kernel
theorem dX10_can_95 : decode cX10_can 95 = .ok (.getfield 129, 3) := by decide +kernel
theorem dX10_can_98 : decode cX10_can 98 = .ok (.invokevirtual 233, 3) := by decide +kernel
theorem dX10_can_101 : decode cX10_can 101 = .ok (.ifCond .eq 10, 3) := by decide +kernel
theorem dX10_can_104 : decode cX10_can 104 = .ok (.iinc 4 1, 3) := by decide +kernel
theorem dX10_can_107 : decode cX10_can 107 = .ok (.iload 6, 2) := by decide +kernel
theorem dX10_can_109 : decode cX10_can 109 = .ok (.istore 5, 2) := by decide +kernel
theorem dX10_can_111 : decode cX10_can 111 = .ok (.iinc 6 (-1), 3) := by decide +kernel
theorem dX10_can_114 : decode cX10_can 114 = .ok (.goto (-47), 3) := by decide +kernel
theorem dX10_can_117 : decode cX10_can 117 = .ok (.iload_n 2, 1) := by decide +kernel
theorem dX10_can_118 : decode cX10_can 118 = .ok (.ifCond .ne 8, 3) := by decide +kernel
theorem dX10_can_121 : decode cX10_can 121 = .ok (.iload 4, 2) := by decide +kernel
theorem dX10_can_123 : decode cX10_can 123 = .ok (.goto 5, 3) := by decide +kernel
theorem dX10_can_126 : decode cX10_can 126 = .ok (.iload 5, 2) := by decide +kernel
theorem dX10_can_128 : decode cX10_can 128 = .ok (.ireturn, 1) := by decide +kernel
theorem dX10_odds_0 : decode cX10_odds 0 = .ok (.aload_n 0, 1) := by decide +kernel
theorem dX10_odds_1 : decode cX10_odds 1 = .ok (.iload_n 1, 1) := by decide +kernel
theorem dX10_odds_2 : decode cX10_odds 2 = .ok (.invokevirtual 105, 3) := by decide +kernel
theorem dX10_odds_5 : decode cX10_odds 5 = .ok (.ifCond .eq 11, 3) := by decide +kernel
theorem dX10_odds_8 : decode cX10_odds 8 = .ok (.iload_n 2, 1) := by decide +kernel
theorem dX10_odds_9 : decode cX10_odds 9 = .ok (.iconst 2, 1) := by decide +kernel
theorem dX10_odds_10 : decode cX10_odds 10 = .ok (.invokestatic 85, 3) := by decide +kernel
theorem dX10_odds_13 : decode cX10_odds 13 = .ok (.ifCond .ne 7, 3) := by decide +kernel
theorem dX10_odds_16 : decode cX10_odds 16 = .ok (.ldc2_w 241, 3) := by decide +kernel
theorem dX10_odds_19 : decode cX10_odds 19 = .ok (.lreturn, 1) := by decide +kernel
theorem dX10_odds_20 : decode cX10_odds 20 = .ok (.aload_n 0, 1) := by decide +kernel
theorem dX10_odds_21 : decode cX10_odds 21 = .ok (.getfield 23, 3) := by decide +kernel
theorem dX10_odds_24 : decode cX10_odds 24 = .ok (.getfield 77, 3) := by decide +kernel
theorem dX10_odds_27 : decode cX10_odds 27 = .ok (.iload_n 1, 1) := by decide +kernel
theorem dX10_odds_28 : decode cX10_odds 28 = .ok (.aaload, 1) := by decide +kernel
theorem dX10_odds_29 : decode cX10_odds 29 = .ok (.astore_n 3, 1) := by decide +kernel
theorem dX10_odds_30 : decode cX10_odds 30 = .ok (.aload_n 0, 1) := by decide +kernel
theorem dX10_odds_31 : decode cX10_odds 31 = .ok (.aload_n 3, 1) := by decide +kernel
theorem dX10_odds_32 : decode cX10_odds 32 = .ok (.invokevirtual 125, 3) := by decide +kernel
theorem dX10_odds_35 : decode cX10_odds 35 = .ok (.astore 4, 2) := by decide +kernel
theorem dX10_odds_37 : decode cX10_odds 37 = .ok (.aload 4, 2) := by decide +kernel
theorem dX10_odds_39 : decode cX10_odds 39 = .ok (.aload_n 3, 1) := by decide +kernel
theorem dX10_odds_40 : decode cX10_odds 40 = .ok (.getfield 115, 3) := by decide +kernel
theorem dX10_odds_43 : decode cX10_odds 43 = .ok (.aload_n 0, 1) := by decide +kernel
theorem dX10_odds_44 : decode cX10_odds 44 = .ok (.getfield 23, 3) := by decide +kernel
theorem dX10_odds_47 : decode cX10_odds 47 = .ok (.getfield 129, 3) := by decide +kernel
theorem dX10_odds_50 : decode cX10_odds 50 = .ok (.invokevirtual 132, 3) := by decide +kernel
theorem dX10_odds_53 : decode cX10_odds 53 = .ok (.istore 5, 2) := by decide +kernel
theorem dX10_odds_55 : decode cX10_odds 55 = .ok (.iconst 0, 1) := by decide +kernel
theorem dX10_odds_56 : decode cX10_odds 56 = .ok (.istore 6, 2) := by decide +kernel
theorem dX10_odds_58 : decode cX10_odds 58 = .ok (.iconst 0, 1) := by decide +kernel
theorem dX10_odds_59 : decode cX10_odds 59 = .ok (.istore 7, 2) := by decide +kernel
theorem dX10_odds_61 : decode cX10_odds 61 = .ok (.iload 7, 2) := by decide +kernel
theorem dX10_odds_63 : decode cX10_odds 63 = .ok (.bipush 12, 2) := by decide +kernel
theorem dX10_odds_65 : decode cX10_odds 65 = .ok (.if_icmp .ge 38, 3) := by decide +kernel
theorem dX10_odds_68 : decode cX10_odds 68 = .ok (.aload 4, 2) := by decide +kernel
theorem dX10_odds_70 : decode cX10_odds 70 = .ok (.aload_n 3, 1) := by decide +kernel
theorem dX10_odds_71 : decode cX10_odds 71 = .ok (.getfield 115, 3) := by decide +kernel
theorem dX10_odds_74 : decode cX10_odds 74 = .ok (.iconst 1, 1) := by decide +kernel
theorem dX10_odds_75 : decode cX10_odds 75 = .ok (.iload 7, 2) := by decide +kernel
theorem dX10_odds_77 : decode cX10_odds 77 = .ok (.ishl, 1) := by decide +kernel
theorem dX10_odds_78 : decode cX10_odds 78 = .ok (.ior, 1) := by decide +kernel
theorem dX10_odds_79 : decode cX10_odds 79 = .ok (.aload_n 0, 1) := by decide +kernel
theorem dX10_odds_80 : decode cX10_odds 80 = .ok (.getfield 23, 3) := by decide +kernel
theorem dX10_odds_83 : decode cX10_odds 83 = .ok (.getfield 129, 3) := by decide +kernel
theorem dX10_odds_86 : decode cX10_odds 86 = .ok (.invokevirtual 132, 3) := by decide +kernel
theorem dX10_odds_89 : decode cX10_odds 89 = .ok (.iload 5, 2) := by decide +kernel
theorem dX10_odds_91 : decode cX10_odds 91 = .ok (.if_icmp .eq 6, 3) := by decide +kernel
theorem dX10_odds_94 : decode cX10_odds 94 = .ok (.iinc 6 1, 3) := by decide +kernel
theorem dX10_odds_97 : decode cX10_odds 97 = .ok (.iinc 7 1, 3) := by decide +kernel
theorem dX10_odds_100 : decode cX10_odds 100 = .ok (.goto (-39), 3) := by decide +kernel
theorem dX10_odds_103 : decode cX10_odds 103 = .ok (.iload 6, 2) := by decide +kernel
theorem dX10_odds_105 : decode cX10_odds 105 = .ok (.bipush 12, 2) := by decide +kernel
theorem dX10_odds_107 : decode cX10_odds 107 = .ok (.iload_n 2, 1) := by decide +kernel
theorem dX10_odds_108 : decode cX10_odds 108 = .ok (.invokestatic 243, 3) := by decide +kernel
theorem dX10_odds_111 : decode cX10_odds 111 = .ok (.lreturn, 1) := by decide +kernel
theorem dX10_mean_0 : decode cX10_mean 0 = .ok (.iload_n 1, 1) := by decide +kernel
theorem dX10_mean_1 : decode cX10_mean 1 = .ok (.bipush 60, 2) := by decide +kernel
theorem dX10_mean_3 : decode cX10_mean 3 = .ok (.invokestatic 89, 3) := by decide +kernel
theorem dX10_mean_6 : decode cX10_mean 6 = .ok (.ifCond .eq 21, 3) := by decide +kernel
theorem dX10_mean_9 : decode cX10_mean 9 = .ok (.iload_n 2, 1) := by decide +kernel
theorem dX10_mean_10 : decode cX10_mean 10 = .ok (.iconst 2, 1) := by decide +kernel
theorem dX10_mean_11 : decode cX10_mean 11 = .ok (.invokestatic 85, 3) := by decide +kernel
theorem dX10_mean_14 : decode cX10_mean 14 = .ok (.ifCond .eq 13, 3) := by decide +kernel
theorem dX10_mean_17 : decode cX10_mean 17 = .ok (.aload_n 0, 1) := by decide +kernel
theorem dX10_mean_18 : decode cX10_mean 18 = .ok (.getfield 23, 3) := by decide +kernel
theorem dX10_mean_21 : decode cX10_mean 21 = .ok (.getfield 92, 3) := by decide +kernel
theorem dX10_mean_24 : decode cX10_mean 24 = .ok (.ifCond .ne 7, 3) := by decide +kernel
theorem dX10_mean_27 : decode cX10_mean 27 = .ok (.ldc2_w 241, 3) := by decide +kernel
theorem dX10_mean_30 : decode cX10_mean 30 = .ok (.lreturn, 1) := by decide +kernel
theorem dX10_mean_31 : decode cX10_mean 31 = .ok (.aload_n 0, 1) := by decide +kernel
theorem dX10_mean_32 : decode cX10_mean 32 = .ok (.iload_n 1, 1) := by decide +kernel
theorem dX10_mean_33 : decode cX10_mean 33 = .ok (.invokevirtual 205, 3) := by decide +kernel
theorem dX10_mean_36 : decode cX10_mean 36 = .ok (.invokevirtual 188, 3) := by decide +kernel
theorem dX10_mean_39 : decode cX10_mean 39 = .ok (.aload_n 0, 1) := by decide +kernel
theorem dX10_mean_40 : decode cX10_mean 40 = .ok (.getfield 23, 3) := by decide +kernel
theorem dX10_mean_43 : decode cX10_mean 43 = .ok (.getfield 92, 3) := by decide +kernel
theorem dX10_mean_46 : decode cX10_mean 46 = .ok (.iload_n 2, 1) := by decide +kernel
theorem dX10_mean_47 : decode cX10_mean 47 = .ok (.invokestatic 243, 3) := by decide +kernel
theorem dX10_mean_50 : decode cX10_mean 50 = .ok (.lreturn, 1) := by decide +kernel
theorem dX10_plan_0 : decode cX10_plan 0 = .ok (.iload_n 1, 1) := by decide +kernel
theorem dX10_plan_1 : decode cX10_plan 1 = .ok (.iconst (-1), 1) := by decide +kernel
theorem dX10_plan_2 : decode cX10_plan 2 = .ok (.if_icmp .ne 16, 3) := by decide +kernel
theorem dX10_plan_5 : decode cX10_plan 5 = .ok (.aload_n 0, 1) := by decide +kernel
theorem dX10_plan_6 : decode cX10_plan 6 = .ok (.getfield 23, 3) := by decide +kernel
theorem dX10_plan_9 : decode cX10_plan 9 = .ok (.getfield 247, 3) := by decide +kernel
theorem dX10_plan_12 : decode cX10_plan 12 = .ok (.iconst 0, 1) := by decide +kernel
theorem dX10_plan_13 : decode cX10_plan 13 = .ok (.putfield 220, 3) := by decide +kernel
theorem dX10_plan_16 : decode cX10_plan 16 = .ok (.iconst 0, 1) := by decide +kernel
theorem dX10_plan_17 : decode cX10_plan 17 = .ok (.ireturn, 1) := by decide +kernel
theorem dX10_plan_18 : decode cX10_plan 18 = .ok (.iload_n 1, 1) := by decide +kernel
theorem dX10_plan_19 : decode cX10_plan 19 = .ok (.iconst 4, 1) := by decide +kernel
theorem dX10_plan_20 : decode cX10_plan 20 = .ok (.invokestatic 85, 3) := by decide +kernel
theorem dX10_plan_23 : decode cX10_plan 23 = .ok (.ifCond .eq 15, 3) := by decide +kernel
theorem dX10_plan_26 : decode cX10_plan 26 = .ok (.iload_n 1, 1) := by decide +kernel
theorem dX10_plan_27 : decode cX10_plan 27 = .ok (.ifCond .eq 13, 3) := by decide +kernel
theorem dX10_plan_30 : decode cX10_plan 30 = .ok (.aload_n 0, 1) := by decide +kernel
theorem dX10_plan_31 : decode cX10_plan 31 = .ok (.iload_n 2, 1) := by decide +kernel
theorem dX10_plan_32 : decode cX10_plan 32 = .ok (.invokevirtual 105, 3) := by decide +kernel
theorem dX10_plan_35 : decode cX10_plan 35 = .ok (.ifCond .ne 5, 3) := by decide +kernel
theorem dX10_plan_38 : decode cX10_plan 38 = .ok (.iconst (-1), 1) := by decide +kernel
theorem dX10_plan_39 : decode cX10_plan 39 = .ok (.ireturn, 1) := by decide +kernel
theorem dX10_plan_40 : decode cX10_plan 40 = .ok (.aload_n 0, 1) := by decide +kernel
theorem dX10_plan_41 : decode cX10_plan 41 = .ok (.getfield 23, 3) := by decide +kernel
theorem dX10_plan_44 : decode cX10_plan 44 = .ok (.getfield 247, 3) := by decide +kernel
theorem dX10_plan_47 : decode cX10_plan 47 = .ok (.iload_n 1, 1) := by decide +kernel
theorem dX10_plan_48 : decode cX10_plan 48 = .ok (.iload_n 2, 1) := by decide +kernel
theorem dX10_plan_49 : decode cX10_plan 49 = .ok (.iconst 0, 1) := by decide +kernel
theorem dX10_plan_50 : decode cX10_plan 50 = .ok (.iconst 0, 1) := by decide +kernel
theorem dX10_plan_51 : decode cX10_plan 51 = .ok (.invokevirtual 225, 3) := by decide +kernel
theorem dX10_plan_54 : decode cX10_plan 54 = .ok (.ireturn, 1) := by decide +kernel
theorem dX10_ends_0 : decode cX10_ends 0 = .ok (.iload_n 1, 1) := by decide +kernel
theorem dX10_ends_1 : decode cX10_ends 1 = .ok (.iconst 2, 1) := by decide +kernel
theorem dX10_ends_2 : decode cX10_ends 2 = .ok (.invokestatic 85, 3) := by decide +kernel
theorem dX10_ends_5 : decode cX10_ends 5 = .ok (.ifCond .ne 5, 3) := by decide +kernel
theorem dX10_ends_8 : decode cX10_ends 8 = .ok (.iconst (-1), 1) := by decide +kernel
theorem dX10_ends_9 : decode cX10_ends 9 = .ok (.ireturn, 1) := by decide +kernel
theorem dX10_ends_10 : decode cX10_ends 10 = .ok (.aload_n 0, 1) := by decide +kernel
theorem dX10_ends_11 : decode cX10_ends 11 = .ok (.getfield 30, 3) := by decide +kernel
theorem dX10_ends_14 : decode cX10_ends 14 = .ok (.aload_n 0, 1) := by decide +kernel
theorem dX10_ends_15 : decode cX10_ends 15 = .ok (.getfield 23, 3) := by decide +kernel
theorem dX10_ends_18 : decode cX10_ends 18 = .ok (.invokevirtual 250, 3) := by decide +kernel
theorem dX10_ends_21 : decode cX10_ends 21 = .ok (.aload_n 0, 1) := by decide +kernel
theorem dX10_ends_22 : decode cX10_ends 22 = .ok (.aload_n 0, 1) := by decide +kernel
theorem dX10_ends_23 : decode cX10_ends 23 = .ok (.getfield 30, 3) := by decide +kernel
theorem dX10_ends_26 : decode cX10_ends 26 = .ok (.invokevirtual 198, 3) := by decide +kernel
theorem dX10_ends_29 : decode cX10_ends 29 = .ok (.iconst 0, 1) := by decide +kernel
theorem dX10_ends_30 : decode cX10_ends 30 = .ok (.istore_n 2, 1) := by decide +kernel
theorem dX10_ends_31 : decode cX10_ends 31 = .ok (.iload_n 2, 1) := by decide +kernel
theorem dX10_ends_32 : decode cX10_ends 32 = .ok (.aload_n 0, 1) := by decide +kernel
theorem dX10_ends_33 : decode cX10_ends 33 = .ok (.getfield 23, 3) := by decide +kernel
theorem dX10_ends_36 : decode cX10_ends 36 = .ok (.getfield 247, 3) := by decide +kernel
theorem dX10_ends_39 : decode cX10_ends 39 = .ok (.getfield 220, 3) := by decide +kernel
theorem dX10_ends_42 : decode cX10_ends 42 = .ok (.if_icmp .ge 45, 3) := by decide +kernel
theorem dX10_ends_45 : decode cX10_ends 45 = .ok (.aload_n 0, 1) := by decide +kernel
theorem dX10_ends_46 : decode cX10_ends 46 = .ok (.aload_n 0, 1) := by decide +kernel
theorem dX10_ends_47 : decode cX10_ends 47 = .ok (.getfield 30, 3) := by decide +kernel
theorem dX10_ends_50 : decode cX10_ends 50 = .ok (.aload_n 0, 1) := by decide +kernel
theorem dX10_ends_51 : decode cX10_ends 51 = .ok (.getfield 23, 3) := by decide +kernel
theorem dX10_ends_54 : decode cX10_ends 54 = .ok (.getfield 247, 3) := by decide +kernel
theorem dX10_ends_57 : decode cX10_ends 57 = .ok (.getfield 253, 3) := by decide +kernel
theorem dX10_ends_60 : decode cX10_ends 60 = .ok (.iload_n 2, 1) := by decide +kernel
theorem dX10_ends_61 : decode cX10_ends 61 = .ok (.aaload, 1) := by decide +kernel
theorem dX10_ends_62 : decode cX10_ends 62 = .ok (.iconst 0, 1) := by decide +kernel
theorem dX10_ends_63 : decode cX10_ends 63 = .ok (.iaload, 1) := by decide +kernel
theorem dX10_ends_64 : decode cX10_ends 64 = .ok (.aload_n 0, 1) := by decide +kernel
theorem dX10_ends_65 : decode cX10_ends 65 = .ok (.getfield 23, 3) := by decide +kernel
theorem dX10_ends_68 : decode cX10_ends 68 = .ok (.getfield 247, 3) := by decide +kernel
theorem dX10_ends_71 : decode cX10_ends 71 = .ok (.getfield 253, 3) := by decide +kernel
theorem dX10_ends_74 : decode cX10_ends 74 = .ok (.iload_n 2, 1) := by decide +kernel
theorem dX10_ends_75 : decode cX10_ends 75 = .ok (.aaload, 1) := by decide +kernel
theorem dX10_ends_76 : decode cX10_ends 76 = .ok (.iconst 1, 1) := by decide +kernel
theorem dX10_ends_77 : decode cX10_ends 77 = .ok (.iaload, 1) := by decide +kernel
theorem dX10_ends_78 : decode cX10_ends 78 = .ok (.invokevirtual 257, 3) := by decide +kernel
theorem dX10_ends_81 : decode cX10_ends 81 = .ok (.iinc 2 1, 3) := by decide +kernel
theorem dX10_ends_84 : decode cX10_ends 84 = .ok (.goto (-53), 3) := by decide +kernel
theorem dX10_ends_87 : decode cX10_ends 87 = .ok (.iload_n 1, 1) := by decide +kernel
theorem dX10_ends_88 : decode cX10_ends 88 = .ok (.ifCond .ne 13, 3) := by decide +kernel
theorem dX10_ends_91 : decode cX10_ends 91 = .ok (.aload_n 0, 1) := by decide +kernel
theorem dX10_ends_92 : decode cX10_ends 92 = .ok (.getfield 30, 3) := by decide +kernel
theorem dX10_ends_95 : decode cX10_ends 95 = .ok (.invokevirtual 188, 3) := by decide +kernel
theorem dX10_ends_98 : decode cX10_ends 98 = .ok (.goto 10, 3) := by decide +kernel
theorem dX10_ends_101 : decode cX10_ends 101 = .ok (.aload_n 0, 1) := by decide +kernel
theorem dX10_ends_102 : decode cX10_ends 102 = .ok (.getfield 30, 3) := by decide +kernel
theorem dX10_ends_105 : decode cX10_ends 105 = .ok (.invokevirtual 261, 3) := by decide +kernel
theorem dX10_ends_108 : decode cX10_ends 108 = .ok (.ireturn, 1) := by decide +kernel
theorem dX10_book_0 : decode cX10_book 0 = .ok (.iload_n 1, 1) := by decide +kernel
theorem dX10_book_1 : decode cX10_book 1 = .ok (.iconst (-1), 1) := by decide +kernel
theorem dX10_book_2 : decode cX10_book 2 = .ok (.if_icmp .ne 16, 3) := by decide +kernel
theorem dX10_book_5 : decode cX10_book 5 = .ok (.aload_n 0, 1) := by decide +kernel
theorem dX10_book_6 : decode cX10_book 6 = .ok (.getfield 23, 3) := by decide +kernel
theorem dX10_book_9 : decode cX10_book 9 = .ok (.getfield 264, 3) := by decide +kernel
theorem dX10_book_12 : decode cX10_book 12 = .ok (.iconst 0, 1) := by decide +kernel
theorem dX10_book_13 : decode cX10_book 13 = .ok (.putfield 220, 3) := by decide +kernel
theorem dX10_book_16 : decode cX10_book 16 = .ok (.iconst 0, 1) := by decide +kernel
theorem dX10_book_17 : decode cX10_book 17 = .ok (.ireturn, 1) := by decide +kernel
theorem dX10_book_18 : decode cX10_book 18 = .ok (.iload_n 1, 1) := by decide +kernel
theorem dX10_book_19 : decode cX10_book 19 = .ok (.invokestatic 143, 3) := by decide +kernel
theorem dX10_book_22 : decode cX10_book 22 = .ok (.ifCond .ne 5, 3) := by decide +kernel
theorem dX10_book_25 : decode cX10_book 25 = .ok (.iconst (-1), 1) := by decide +kernel
theorem dX10_book_26 : decode cX10_book 26 = .ok (.ireturn, 1) := by decide +kernel
theorem dX10_book_27 : decode cX10_book 27 = .ok (.iload_n 2, 1) := by decide +kernel
theorem dX10_book_28 : decode cX10_book 28 = .ok (.bipush 99, 2) := by decide +kernel
theorem dX10_book_30 : decode cX10_book 30 = .ok (.invokestatic 89, 3) := by decide +kernel
theorem dX10_book_33 : decode cX10_book 33 = .ok (.ifCond .ne 6, 3) := by decide +kernel
theorem dX10_book_36 : decode cX10_book 36 = .ok (.bipush (-2), 2) := by decide +kernel
theorem dX10_book_38 : decode cX10_book 38 = .ok (.ireturn, 1) := by decide +kernel
theorem dX10_book_39 : decode cX10_book 39 = .ok (.aload_n 0, 1) := by decide +kernel
theorem dX10_book_40 : decode cX10_book 40 = .ok (.getfield 23, 3) := by decide +kernel
theorem dX10_book_43 : decode cX10_book 43 = .ok (.getfield 264, 3) := by decide +kernel
theorem dX10_book_46 : decode cX10_book 46 = .ok (.iload_n 1, 1) := by decide +kernel
theorem dX10_book_47 : decode cX10_book 47 = .ok (.iload_n 2, 1) := by decide +kernel
theorem dX10_book_48 : decode cX10_book 48 = .ok (.iconst 0, 1) := by decide +kernel
theorem dX10_book_49 : decode cX10_book 49 = .ok (.iconst 0, 1) := by decide +kernel
theorem dX10_book_50 : decode cX10_book 50 = .ok (.invokevirtual 225, 3) := by decide +kernel
theorem dX10_book_53 : decode cX10_book 53 = .ok (.ireturn, 1) := by decide +kernel
theorem dX10_looked_0 : decode cX10_looked 0 = .ok (.iconst 0, 1) := by decide +kernel
theorem dX10_looked_1 : decode cX10_looked 1 = .ok (.istore_n 1, 1) := by decide +kernel
theorem dX10_looked_2 : decode cX10_looked 2 = .ok (.iload_n 1, 1) := by decide +kernel
theorem dX10_looked_3 : decode cX10_looked 3 = .ok (.aload_n 0, 1) := by decide +kernel
theorem dX10_looked_4 : decode cX10_looked 4 = .ok (.getfield 23, 3) := by decide +kernel
theorem dX10_looked_7 : decode cX10_looked 7 = .ok (.getfield 264, 3) := by decide +kernel
theorem dX10_looked_10 : decode cX10_looked 10 = .ok (.getfield 220, 3) := by decide +kernel
theorem dX10_looked_13 : decode cX10_looked 13 = .ok (.if_icmp .ge 59, 3) := by decide +kernel
theorem dX10_looked_16 : decode cX10_looked 16 = .ok (.aload_n 0, 1) := by decide +kernel
theorem dX10_looked_17 : decode cX10_looked 17 = .ok (.getfield 23, 3) := by decide +kernel
theorem dX10_looked_20 : decode cX10_looked 20 = .ok (.getfield 264, 3) := by decide +kernel
theorem dX10_looked_23 : decode cX10_looked 23 = .ok (.getfield 253, 3) := by decide +kernel
theorem dX10_looked_26 : decode cX10_looked 26 = .ok (.iload_n 1, 1) := by decide +kernel
theorem dX10_looked_27 : decode cX10_looked 27 = .ok (.aaload, 1) := by decide +kernel
theorem dX10_looked_28 : decode cX10_looked 28 = .ok (.iconst 0, 1) := by decide +kernel
theorem dX10_looked_29 : decode cX10_looked 29 = .ok (.iaload, 1) := by decide +kernel
theorem dX10_looked_30 : decode cX10_looked 30 = .ok (.istore_n 2, 1) := by decide +kernel
theorem dX10_looked_31 : decode cX10_looked 31 = .ok (.iload_n 2, 1) := by decide +kernel
theorem dX10_looked_32 : decode cX10_looked 32 = .ok (.invokestatic 143, 3) := by decide +kernel
theorem dX10_looked_35 : decode cX10_looked 35 = .ok (.ifCond .eq 31, 3) := by decide +kernel
theorem dX10_looked_38 : decode cX10_looked 38 = .ok (.aload_n 0, 1) := by decide +kernel
theorem dX10_looked_39 : decode cX10_looked 39 = .ok (.getfield 23, 3) := by decide +kernel
theorem dX10_looked_42 : decode cX10_looked 42 = .ok (.getfield 160, 3) := by decide +kernel
theorem dX10_looked_45 : decode cX10_looked 45 = .ok (.iload_n 2, 1) := by decide +kernel
theorem dX10_looked_46 : decode cX10_looked 46 = .ok (.iaload, 1) := by decide +kernel
theorem dX10_looked_47 : decode cX10_looked 47 = .ok (.aload_n 0, 1) := by decide +kernel
theorem dX10_looked_48 : decode cX10_looked 48 = .ok (.getfield 23, 3) := by decide +kernel
theorem dX10_looked_51 : decode cX10_looked 51 = .ok (.getfield 264, 3) := by decide +kernel
theorem dX10_looked_54 : decode cX10_looked 54 = .ok (.getfield 253, 3) := by decide +kernel
theorem dX10_looked_57 : decode cX10_looked 57 = .ok (.iload_n 1, 1) := by decide +kernel
theorem dX10_looked_58 : decode cX10_looked 58 = .ok (.aaload, 1) := by decide +kernel
theorem dX10_looked_59 : decode cX10_looked 59 = .ok (.iconst 1, 1) := by decide +kernel
theorem dX10_looked_60 : decode cX10_looked 60 = .ok (.iaload, 1) := by decide +kernel
theorem dX10_looked_61 : decode cX10_looked 61 = .ok (.if_icmp .eq 5, 3) := by decide +kernel
theorem dX10_looked_64 : decode cX10_looked 64 = .ok (.iload_n 1, 1) := by decide +kernel
theorem dX10_looked_65 : decode cX10_looked 65 = .ok (.ireturn, 1) := by decide +kernel
theorem dX10_looked_66 : decode cX10_looked 66 = .ok (.iinc 1 1, 3) := by decide +kernel
theorem dX10_looked_69 : decode cX10_looked 69 = .ok (.goto (-67), 3) := by decide +kernel
theorem dX10_looked_72 : decode cX10_looked 72 = .ok (.bipush (-5), 2) := by decide +kernel
theorem dX10_looked_74 : decode cX10_looked 74 = .ok (.ireturn, 1) := by decide +kernel
theorem dX10_judge_0 : decode cX10_judge 0 = .ok (.iload_n 1, 1) := by decide +kernel
theorem dX10_judge_1 : decode cX10_judge 1 = .ok (.bipush 6, 2) := by decide +kernel
theorem dX10_judge_3 : decode cX10_judge 3 = .ok (.invokestatic 85, 3) := by decide +kernel
theorem dX10_judge_6 : decode cX10_judge 6 = .ok (.ifCond .ne 5, 3) := by decide +kernel
theorem dX10_judge_9 : decode cX10_judge 9 = .ok (.iconst (-1), 1) := by decide +kernel
theorem dX10_judge_10 : decode cX10_judge 10 = .ok (.ireturn, 1) := by decide +kernel
theorem dX10_judge_11 : decode cX10_judge 11 = .ok (.aload_n 0, 1) := by decide +kernel
theorem dX10_judge_12 : decode cX10_judge 12 = .ok (.getfield 73, 3) := by decide +kernel
theorem dX10_judge_15 : decode cX10_judge 15 = .ok (.iload_n 1, 1) := by decide +kernel
theorem dX10_judge_16 : decode cX10_judge 16 = .ok (.aaload, 1) := by decide +kernel
theorem dX10_judge_17 : decode cX10_judge 17 = .ok (.astore_n 3, 1) := by decide +kernel
theorem dX10_judge_18 : decode cX10_judge 18 = .ok (.aload_n 3, 1) := by decide +kernel
theorem dX10_judge_19 : decode cX10_judge 19 = .ok (.getfield 267, 3) := by decide +kernel
theorem dX10_judge_22 : decode cX10_judge 22 = .ok (.ifCond .eq 14, 3) := by decide +kernel
theorem dX10_judge_25 : decode cX10_judge 25 = .ok (.aload_n 3, 1) := by decide +kernel
theorem dX10_judge_26 : decode cX10_judge 26 = .ok (.getfield 267, 3) := by decide +kernel
theorem dX10_judge_29 : decode cX10_judge 29 = .ok (.iconst (-1), 1) := by decide +kernel
theorem dX10_judge_30 : decode cX10_judge 30 = .ok (.if_icmp .eq 6, 3) := by decide +kernel
theorem dX10_judge_33 : decode cX10_judge 33 = .ok (.bipush (-12), 2) := by decide +kernel
theorem dX10_judge_35 : decode cX10_judge 35 = .ok (.ireturn, 1) := by decide +kernel
theorem dX10_judge_36 : decode cX10_judge 36 = .ok (.aload_n 3, 1) := by decide +kernel
theorem dX10_judge_37 : decode cX10_judge 37 = .ok (.iload_n 2, 1) := by decide +kernel
theorem dX10_judge_38 : decode cX10_judge 38 = .ok (.iconst 0, 1) := by decide +kernel
theorem dX10_judge_39 : decode cX10_judge 39 = .ok (.invokevirtual 270, 3) := by decide +kernel
theorem dX10_judge_42 : decode cX10_judge 42 = .ok (.ifCond .eq 12, 3) := by decide +kernel
theorem dX10_judge_45 : decode cX10_judge 45 = .ok (.aload_n 3, 1) := by decide +kernel
theorem dX10_judge_46 : decode cX10_judge 46 = .ok (.getfield 273, 3) := by decide +kernel
theorem dX10_judge_49 : decode cX10_judge 49 = .ok (.iload_n 2, 1) := by decide +kernel
theorem dX10_judge_50 : decode cX10_judge 50 = .ok (.isub, 1) := by decide +kernel
theorem dX10_judge_51 : decode cX10_judge 51 = .ok (.goto 4, 3) := by decide +kernel
theorem dX10_judge_54 : decode cX10_judge 54 = .ok (.iconst 0, 1) := by decide +kernel
theorem dX10_judge_55 : decode cX10_judge 55 = .ok (.istore 4, 2) := by decide +kernel
theorem dX10_judge_57 : decode cX10_judge 57 = .ok (.iconst 0, 1) := by decide +kernel
theorem dX10_judge_58 : decode cX10_judge 58 = .ok (.istore 5, 2) := by decide +kernel
theorem dX10_judge_60 : decode cX10_judge 60 = .ok (.iload 5, 2) := by decide +kernel
theorem dX10_judge_62 : decode cX10_judge 62 = .ok (.bipush 12, 2) := by decide +kernel
theorem dX10_judge_64 : decode cX10_judge 64 = .ok (.if_icmp .ge 49, 3) := by decide +kernel
theorem dX10_judge_67 : decode cX10_judge 67 = .ok (.iload 5, 2) := by decide +kernel
theorem dX10_judge_69 : decode cX10_judge 69 = .ok (.iload 4, 2) := by decide +kernel
theorem dX10_judge_71 : decode cX10_judge 71 = .ok (.if_icmp .lt 9, 3) := by decide +kernel
theorem dX10_judge_74 : decode cX10_judge 74 = .ok (.bipush 100, 2) := by decide +kernel
theorem dX10_judge_76 : decode cX10_judge 76 = .ok (.iload 5, 2) := by decide +kernel
theorem dX10_judge_78 : decode cX10_judge 78 = .ok (.iadd, 1) := by decide +kernel
theorem dX10_judge_79 : decode cX10_judge 79 = .ok (.ireturn, 1) := by decide +kernel
theorem dX10_judge_80 : decode cX10_judge 80 = .ok (.aload_n 3, 1) := by decide +kernel
theorem dX10_judge_81 : decode cX10_judge 81 = .ok (.getfield 274, 3) := by decide +kernel
theorem dX10_judge_84 : decode cX10_judge 84 = .ok (.iload_n 2, 1) := by decide +kernel
theorem dX10_judge_85 : decode cX10_judge 85 = .ok (.iload 5, 2) := by decide +kernel
theorem dX10_judge_87 : decode cX10_judge 87 = .ok (.iadd, 1) := by decide +kernel
theorem dX10_judge_88 : decode cX10_judge 88 = .ok (.laload, 1) := by decide +kernel
theorem dX10_judge_89 : decode cX10_judge 89 = .ok (.aload_n 0, 1) := by decide +kernel
theorem dX10_judge_90 : decode cX10_judge 90 = .ok (.getfield 23, 3) := by decide +kernel
theorem dX10_judge_93 : decode cX10_judge 93 = .ok (.getfield 160, 3) := by decide +kernel
theorem dX10_judge_96 : decode cX10_judge 96 = .ok (.iload 5, 2) := by decide +kernel
theorem dX10_judge_98 : decode cX10_judge 98 = .ok (.iaload, 1) := by decide +kernel
theorem dX10_judge_99 : decode cX10_judge 99 = .ok (.i2l, 1) := by decide +kernel
theorem dX10_judge_100 : decode cX10_judge 100 = .ok (.lcmp, 1) := by decide +kernel
theorem dX10_judge_101 : decode cX10_judge 101 = .ok (.ifCond .eq 6, 3) := by decide +kernel
theorem dX10_judge_104 : decode cX10_judge 104 = .ok (.iload 5, 2) := by decide +kernel
theorem dX10_judge_106 : decode cX10_judge 106 = .ok (.ireturn, 1) := by decide +kernel
theorem dX10_judge_107 : decode cX10_judge 107 = .ok (.iinc 5 1, 3) := by decide +kernel
theorem dX10_judge_110 : decode cX10_judge 110 = .ok (.goto (-50), 3) := by decide +kernel
theorem dX10_judge_113 : decode cX10_judge 113 = .ok (.bipush (-5), 2) := by decide +kernel
theorem dX10_judge_115 : decode cX10_judge 115 = .ok (.ireturn, 1) := by decide +kernel
theorem dX10_image_0 : decode cX10_image 0 = .ok (.aload_n 0, 1) := by decide +kernel
theorem dX10_image_1 : decode cX10_image 1 = .ok (.getfield 27, 3) := by decide +kernel
theorem dX10_image_4 : decode cX10_image 4 = .ok (.aload_n 0, 1) := by decide +kernel
theorem dX10_image_5 : decode cX10_image 5 = .ok (.getfield 23, 3) := by decide +kernel
theorem dX10_image_8 : decode cX10_image 8 = .ok (.invokevirtual 278, 3) := by decide +kernel
theorem dX10_image_11 : decode cX10_image 11 = .ok (.aload_n 0, 1) := by decide +kernel
theorem dX10_image_12 : decode cX10_image 12 = .ok (.iconst 1, 1) := by decide +kernel
theorem dX10_image_13 : decode cX10_image 13 = .ok (.putfield 280, 3) := by decide +kernel
theorem dX10_image_16 : decode cX10_image 16 = .ok (.aload_n 0, 1) := by decide +kernel
theorem dX10_image_17 : decode cX10_image 17 = .ok (.getfield 23, 3) := by decide +kernel
theorem dX10_image_20 : decode cX10_image 20 = .ok (.getfield 92, 3) := by decide +kernel
theorem dX10_image_23 : decode cX10_image 23 = .ok (.ireturn, 1) := by decide +kernel
theorem dX10_undo_0 : decode cX10_undo 0 = .ok (.aload_n 0, 1) := by decide +kernel
theorem dX10_undo_1 : decode cX10_undo 1 = .ok (.getfield 280, 3) := by decide +kernel
theorem dX10_undo_4 : decode cX10_undo 4 = .ok (.ifCond .ne 6, 3) := by decide +kernel
theorem dX10_undo_7 : decode cX10_undo 7 = .ok (.bipush (-3), 2) := by decide +kernel
theorem dX10_undo_9 : decode cX10_undo 9 = .ok (.ireturn, 1) := by decide +kernel
theorem dX10_undo_10 : decode cX10_undo 10 = .ok (.aload_n 0, 1) := by decide +kernel
theorem dX10_undo_11 : decode cX10_undo 11 = .ok (.getfield 23, 3) := by decide +kernel
theorem dX10_undo_14 : decode cX10_undo 14 = .ok (.aload_n 0, 1) := by decide +kernel
theorem dX10_undo_15 : decode cX10_undo 15 = .ok (.getfield 27, 3) := by decide +kernel
theorem dX10_undo_18 : decode cX10_undo 18 = .ok (.invokevirtual 278, 3) := by decide +kernel
theorem dX10_undo_21 : decode cX10_undo 21 = .ok (.aload_n 0, 1) := by decide +kernel
theorem dX10_undo_22 : decode cX10_undo 22 = .ok (.getfield 23, 3) := by decide +kernel
theorem dX10_undo_25 : decode cX10_undo 25 = .ok (.getfield 92, 3) := by decide +kernel
theorem dX10_undo_28 : decode cX10_undo 28 = .ok (.ireturn, 1) := by decide +kernel
theorem dX10_act_0 : decode cX10_act 0 = .ok (.aload_n 0, 1) := by decide +kernel
theorem dX10_act_1 : decode cX10_act 1 = .ok (.iload_n 1, 1) := by decide +kernel
theorem dX10_act_2 : decode cX10_act 2 = .ok (.invokevirtual 105, 3) := by decide +kernel
theorem dX10_act_5 : decode cX10_act 5 = .ok (.ifCond .eq 11, 3) := by decide +kernel
theorem dX10_act_8 : decode cX10_act 8 = .ok (.iload_n 2, 1) := by decide +kernel
theorem dX10_act_9 : decode cX10_act 9 = .ok (.iconst 3, 1) := by decide +kernel
theorem dX10_act_10 : decode cX10_act 10 = .ok (.invokestatic 85, 3) := by decide +kernel
theorem dX10_act_13 : decode cX10_act 13 = .ok (.ifCond .ne 13, 3) := by decide +kernel
theorem dX10_act_16 : decode cX10_act 16 = .ok (.aload_n 0, 1) := by decide +kernel
theorem dX10_act_17 : decode cX10_act 17 = .ok (.getfield 67, 3) := by decide +kernel
theorem dX10_act_20 : decode cX10_act 20 = .ok (.iconst 0, 1) := by decide +kernel
theorem dX10_act_21 : decode cX10_act 21 = .ok (.putfield 283, 3) := by decide +kernel
theorem dX10_act_24 : decode cX10_act 24 = .ok (.iconst 0, 1) := by decide +kernel
theorem dX10_act_25 : decode cX10_act 25 = .ok (.ireturn, 1) := by decide +kernel
theorem dX10_act_26 : decode cX10_act 26 = .ok (.aload_n 0, 1) := by decide +kernel
theorem dX10_act_27 : decode cX10_act 27 = .ok (.getfield 67, 3) := by decide +kernel
theorem dX10_act_30 : decode cX10_act 30 = .ok (.aload_n 0, 1) := by decide +kernel
theorem dX10_act_31 : decode cX10_act 31 = .ok (.getfield 23, 3) := by decide +kernel
theorem dX10_act_34 : decode cX10_act 34 = .ok (.getfield 77, 3) := by decide +kernel
theorem dX10_act_37 : decode cX10_act 37 = .ok (.iload_n 1, 1) := by decide +kernel
theorem dX10_act_38 : decode cX10_act 38 = .ok (.aaload, 1) := by decide +kernel
theorem dX10_act_39 : decode cX10_act 39 = .ok (.iload_n 2, 1) := by decide +kernel
theorem dX10_act_40 : decode cX10_act 40 = .ok (.iload_n 3, 1) := by decide +kernel
theorem dX10_act_41 : decode cX10_act 41 = .ok (.invokevirtual 286, 3) := by decide +kernel
theorem dX10_act_44 : decode cX10_act 44 = .ok (.ireturn, 1) := by decide +kernel
theorem dX10_trace_0 : decode cX10_trace 0 = .ok (.iload_n 1, 1) := by decide +kernel
theorem dX10_trace_1 : decode cX10_trace 1 = .ok (.aload_n 0, 1) := by decide +kernel
theorem dX10_trace_2 : decode cX10_trace 2 = .ok (.getfield 67, 3) := by decide +kernel
theorem dX10_trace_5 : decode cX10_trace 5 = .ok (.getfield 283, 3) := by decide +kernel
theorem dX10_trace_8 : decode cX10_trace 8 = .ok (.bipush 20, 2) := by decide +kernel
theorem dX10_trace_10 : decode cX10_trace 10 = .ok (.invokestatic 289, 3) := by decide +kernel
theorem dX10_trace_13 : decode cX10_trace 13 = .ok (.invokestatic 85, 3) := by decide +kernel
theorem dX10_trace_16 : decode cX10_trace 16 = .ok (.ifCond .eq 15, 3) := by decide +kernel
theorem dX10_trace_19 : decode cX10_trace 19 = .ok (.aload_n 0, 1) := by decide +kernel
theorem dX10_trace_20 : decode cX10_trace 20 = .ok (.getfield 67, 3) := by decide +kernel
theorem dX10_trace_23 : decode cX10_trace 23 = .ok (.getfield 294, 3) := by decide +kernel
theorem dX10_trace_26 : decode cX10_trace 26 = .ok (.iload_n 1, 1) := by decide +kernel
theorem dX10_trace_27 : decode cX10_trace 27 = .ok (.iaload, 1) := by decide +kernel
theorem dX10_trace_28 : decode cX10_trace 28 = .ok (.goto 4, 3) := by decide +kernel
theorem dX10_trace_31 : decode cX10_trace 31 = .ok (.iconst (-1), 1) := by decide +kernel
theorem dX10_trace_32 : decode cX10_trace 32 = .ok (.ireturn, 1) := by decide +kernel
theorem dX10_taken_0 : decode cX10_taken 0 = .ok (.iload_n 2, 1) := by decide +kernel
theorem dX10_taken_1 : decode cX10_taken 1 = .ok (.bipush 7, 2) := by decide +kernel
theorem dX10_taken_3 : decode cX10_taken 3 = .ok (.invokestatic 85, 3) := by decide +kernel
theorem dX10_taken_6 : decode cX10_taken 6 = .ok (.ifCond .ne 6, 3) := by decide +kernel
theorem dX10_taken_9 : decode cX10_taken 9 = .ok (.bipush (-2), 2) := by decide +kernel
theorem dX10_taken_11 : decode cX10_taken 11 = .ok (.ireturn, 1) := by decide +kernel
theorem dX10_taken_12 : decode cX10_taken 12 = .ok (.aload_n 0, 1) := by decide +kernel
theorem dX10_taken_13 : decode cX10_taken 13 = .ok (.iload_n 1, 1) := by decide +kernel
theorem dX10_taken_14 : decode cX10_taken 14 = .ok (.invokevirtual 105, 3) := by decide +kernel
theorem dX10_taken_17 : decode cX10_taken 17 = .ok (.ifCond .ne 6, 3) := by decide +kernel
theorem dX10_taken_20 : decode cX10_taken 20 = .ok (.bipush (-11), 2) := by decide +kernel
theorem dX10_taken_22 : decode cX10_taken 22 = .ok (.ireturn, 1) := by decide +kernel
theorem dX10_taken_23 : decode cX10_taken 23 = .ok (.aload_n 0, 1) := by decide +kernel
theorem dX10_taken_24 : decode cX10_taken 24 = .ok (.getfield 23, 3) := by decide +kernel
theorem dX10_taken_27 : decode cX10_taken 27 = .ok (.getfield 77, 3) := by decide +kernel
theorem dX10_taken_30 : decode cX10_taken 30 = .ok (.iload_n 1, 1) := by decide +kernel
theorem dX10_taken_31 : decode cX10_taken 31 = .ok (.aaload, 1) := by decide +kernel
theorem dX10_taken_32 : decode cX10_taken 32 = .ok (.getfield 109, 3) := by decide +kernel
theorem dX10_taken_35 : decode cX10_taken 35 = .ok (.istore_n 3, 1) := by decide +kernel
theorem dX10_taken_36 : decode cX10_taken 36 = .ok (.iload_n 3, 1) := by decide +kernel
theorem dX10_taken_37 : decode cX10_taken 37 = .ok (.iload_n 2, 1) := by decide +kernel
theorem dX10_taken_38 : decode cX10_taken 38 = .ok (.invokestatic 297, 3) := by decide +kernel
theorem dX10_taken_41 : decode cX10_taken 41 = .ok (.ifCond .eq 7, 3) := by decide +kernel
theorem dX10_taken_44 : decode cX10_taken 44 = .ok (.iload_n 3, 1) := by decide +kernel
theorem dX10_taken_45 : decode cX10_taken 45 = .ok (.goto 5, 3) := by decide +kernel
theorem dX10_taken_48 : decode cX10_taken 48 = .ok (.bipush (-12), 2) := by decide +kernel
theorem dX10_taken_50 : decode cX10_taken 50 = .ok (.ireturn, 1) := by decide +kernel
theorem dX10_count_0 : decode cX10_count 0 = .ok (.iload_n 1, 1) := by decide +kernel
theorem dX10_count_1 : decode cX10_count 1 = .ok (.tableswitch 105 0 6 #[43, 51, 56, 67, 78, 89, 97], 43) := by decide +kernel
theorem dX10_count_44 : decode cX10_count 44 = .ok (.aload_n 0, 1) := by decide +kernel
theorem dX10_count_45 : decode cX10_count 45 = .ok (.getfield 23, 3) := by decide +kernel
theorem dX10_count_48 : decode cX10_count 48 = .ok (.getfield 92, 3) := by decide +kernel
theorem dX10_count_51 : decode cX10_count 51 = .ok (.ireturn, 1) := by decide +kernel
theorem dX10_count_52 : decode cX10_count 52 = .ok (.aload_n 0, 1) := by decide +kernel
theorem dX10_count_53 : decode cX10_count 53 = .ok (.getfield 172, 3) := by decide +kernel
theorem dX10_count_56 : decode cX10_count 56 = .ok (.ireturn, 1) := by decide +kernel
theorem dX10_count_57 : decode cX10_count 57 = .ok (.aload_n 0, 1) := by decide +kernel
theorem dX10_count_58 : decode cX10_count 58 = .ok (.getfield 23, 3) := by decide +kernel
theorem dX10_count_61 : decode cX10_count 61 = .ok (.getfield 216, 3) := by decide +kernel
theorem dX10_count_64 : decode cX10_count 64 = .ok (.getfield 220, 3) := by decide +kernel
theorem dX10_count_67 : decode cX10_count 67 = .ok (.ireturn, 1) := by decide +kernel
theorem dX10_count_68 : decode cX10_count 68 = .ok (.aload_n 0, 1) := by decide +kernel
theorem dX10_count_69 : decode cX10_count 69 = .ok (.getfield 23, 3) := by decide +kernel
theorem dX10_count_72 : decode cX10_count 72 = .ok (.getfield 247, 3) := by decide +kernel
theorem dX10_count_75 : decode cX10_count 75 = .ok (.getfield 220, 3) := by decide +kernel
theorem dX10_count_78 : decode cX10_count 78 = .ok (.ireturn, 1) := by decide +kernel
theorem dX10_count_79 : decode cX10_count 79 = .ok (.aload_n 0, 1) := by decide +kernel
theorem dX10_count_80 : decode cX10_count 80 = .ok (.getfield 23, 3) := by decide +kernel
theorem dX10_count_83 : decode cX10_count 83 = .ok (.getfield 264, 3) := by decide +kernel
theorem dX10_count_86 : decode cX10_count 86 = .ok (.getfield 220, 3) := by decide +kernel
theorem dX10_count_89 : decode cX10_count 89 = .ok (.ireturn, 1) := by decide +kernel
theorem dX10_count_90 : decode cX10_count 90 = .ok (.aload_n 0, 1) := by decide +kernel
theorem dX10_count_91 : decode cX10_count 91 = .ok (.getfield 36, 3) := by decide +kernel
theorem dX10_count_94 : decode cX10_count 94 = .ok (.getfield 169, 3) := by decide +kernel
theorem dX10_count_97 : decode cX10_count 97 = .ok (.ireturn, 1) := by decide +kernel
theorem dX10_count_98 : decode cX10_count 98 = .ok (.aload_n 0, 1) := by decide +kernel
theorem dX10_count_99 : decode cX10_count 99 = .ok (.getfield 67, 3) := by decide +kernel
theorem dX10_count_102 : decode cX10_count 102 = .ok (.getfield 283, 3) := by decide +kernel
theorem dX10_count_105 : decode cX10_count 105 = .ok (.ireturn, 1) := by decide +kernel
theorem dX10_count_106 : decode cX10_count 106 = .ok (.bipush (-2), 2) := by decide +kernel
theorem dX10_count_108 : decode cX10_count 108 = .ok (.ireturn, 1) := by decide +kernel
theorem dX10_tape_0 : decode cX10_tape 0 = .ok (.iload_n 1, 1) := by decide +kernel
theorem dX10_tape_1 : decode cX10_tape 1 = .ok (.bipush 6, 2) := by decide +kernel
theorem dX10_tape_3 : decode cX10_tape 3 = .ok (.invokestatic 85, 3) := by decide +kernel
theorem dX10_tape_6 : decode cX10_tape 6 = .ok (.ifCond .ne 5, 3) := by decide +kernel
theorem dX10_tape_9 : decode cX10_tape 9 = .ok (.iconst (-1), 1) := by decide +kernel
theorem dX10_tape_10 : decode cX10_tape 10 = .ok (.ireturn, 1) := by decide +kernel
theorem dX10_tape_11 : decode cX10_tape 11 = .ok (.iload_n 2, 1) := by decide +kernel
theorem dX10_tape_12 : decode cX10_tape 12 = .ok (.iconst (-1), 1) := by decide +kernel
theorem dX10_tape_13 : decode cX10_tape 13 = .ok (.if_icmp .ne 16, 3) := by decide +kernel
theorem dX10_tape_16 : decode cX10_tape 16 = .ok (.aload_n 0, 1) := by decide +kernel
theorem dX10_tape_17 : decode cX10_tape 17 = .ok (.getfield 73, 3) := by decide +kernel
theorem dX10_tape_20 : decode cX10_tape 20 = .ok (.iload_n 1, 1) := by decide +kernel
theorem dX10_tape_21 : decode cX10_tape 21 = .ok (.aaload, 1) := by decide +kernel
theorem dX10_tape_22 : decode cX10_tape 22 = .ok (.iconst (-1), 1) := by decide +kernel
theorem dX10_tape_23 : decode cX10_tape 23 = .ok (.iconst 0, 1) := by decide +kernel
theorem dX10_tape_24 : decode cX10_tape 24 = .ok (.invokevirtual 300, 3) := by decide +kernel
theorem dX10_tape_27 : decode cX10_tape 27 = .ok (.iconst 1, 1) := by decide +kernel
theorem dX10_tape_28 : decode cX10_tape 28 = .ok (.ireturn, 1) := by decide +kernel
theorem dX10_tape_29 : decode cX10_tape 29 = .ok (.iload_n 2, 1) := by decide +kernel
theorem dX10_tape_30 : decode cX10_tape 30 = .ok (.iconst 5, 1) := by decide +kernel
theorem dX10_tape_31 : decode cX10_tape 31 = .ok (.invokestatic 85, 3) := by decide +kernel
theorem dX10_tape_34 : decode cX10_tape 34 = .ok (.ifCond .eq 9, 3) := by decide +kernel
theorem dX10_tape_37 : decode cX10_tape 37 = .ok (.iload_n 3, 1) := by decide +kernel
theorem dX10_tape_38 : decode cX10_tape 38 = .ok (.bipush 60, 2) := by decide +kernel
theorem dX10_tape_40 : decode cX10_tape 40 = .ok (.if_icmp .le 6, 3) := by decide +kernel
theorem dX10_tape_43 : decode cX10_tape 43 = .ok (.bipush (-2), 2) := by decide +kernel
theorem dX10_tape_45 : decode cX10_tape 45 = .ok (.ireturn, 1) := by decide +kernel
theorem dX10_tape_46 : decode cX10_tape 46 = .ok (.iload_n 3, 1) := by decide +kernel
theorem dX10_tape_47 : decode cX10_tape 47 = .ok (.ifCond .ge 6, 3) := by decide +kernel
theorem dX10_tape_50 : decode cX10_tape 50 = .ok (.bipush (-14), 2) := by decide +kernel
theorem dX10_tape_52 : decode cX10_tape 52 = .ok (.ireturn, 1) := by decide +kernel
theorem dX10_tape_53 : decode cX10_tape 53 = .ok (.aload_n 0, 1) := by decide +kernel
theorem dX10_tape_54 : decode cX10_tape 54 = .ok (.getfield 73, 3) := by decide +kernel
theorem dX10_tape_57 : decode cX10_tape 57 = .ok (.iload_n 1, 1) := by decide +kernel
theorem dX10_tape_58 : decode cX10_tape 58 = .ok (.aaload, 1) := by decide +kernel
theorem dX10_tape_59 : decode cX10_tape 59 = .ok (.iload_n 2, 1) := by decide +kernel
theorem dX10_tape_60 : decode cX10_tape 60 = .ok (.iload_n 3, 1) := by decide +kernel
theorem dX10_tape_61 : decode cX10_tape 61 = .ok (.invokevirtual 300, 3) := by decide +kernel
theorem dX10_tape_64 : decode cX10_tape 64 = .ok (.iconst 1, 1) := by decide +kernel
theorem dX10_tape_65 : decode cX10_tape 65 = .ok (.ireturn, 1) := by decide +kernel
theorem dX10_item_0 : decode cX10_item 0 = .ok (.iload_n 1, 1) := by decide +kernel
theorem dX10_item_1 : decode cX10_item 1 = .ok (.bipush 6, 2) := by decide +kernel
theorem dX10_item_3 : decode cX10_item 3 = .ok (.invokestatic 85, 3) := by decide +kernel
theorem dX10_item_6 : decode cX10_item 6 = .ok (.ifCond .ne 5, 3) := by decide +kernel
theorem dX10_item_9 : decode cX10_item 9 = .ok (.iconst (-1), 1) := by decide +kernel
theorem dX10_item_10 : decode cX10_item 10 = .ok (.ireturn, 1) := by decide +kernel
theorem dX10_item_11 : decode cX10_item 11 = .ok (.aload_n 0, 1) := by decide +kernel
theorem dX10_item_12 : decode cX10_item 12 = .ok (.getfield 73, 3) := by decide +kernel
theorem dX10_item_15 : decode cX10_item 15 = .ok (.iload_n 1, 1) := by decide +kernel
theorem dX10_item_16 : decode cX10_item 16 = .ok (.aaload, 1) := by decide +kernel
theorem dX10_item_17 : decode cX10_item 17 = .ok (.astore 5, 2) := by decide +kernel
theorem dX10_item_19 : decode cX10_item 19 = .ok (.aload 5, 2) := by decide +kernel
theorem dX10_item_21 : decode cX10_item 21 = .ok (.getfield 267, 3) := by decide +kernel
theorem dX10_item_24 : decode cX10_item 24 = .ok (.iconst (-1), 1) := by decide +kernel
theorem dX10_item_25 : decode cX10_item 25 = .ok (.if_icmp .ne 6, 3) := by decide +kernel
theorem dX10_item_28 : decode cX10_item 28 = .ok (.bipush (-11), 2) := by decide +kernel
theorem dX10_item_30 : decode cX10_item 30 = .ok (.ireturn, 1) := by decide +kernel
theorem dX10_item_31 : decode cX10_item 31 = .ok (.aload 5, 2) := by decide +kernel
theorem dX10_item_33 : decode cX10_item 33 = .ok (.iload_n 2, 1) := by decide +kernel
theorem dX10_item_34 : decode cX10_item 34 = .ok (.iconst 1, 1) := by decide +kernel
theorem dX10_item_35 : decode cX10_item 35 = .ok (.invokevirtual 270, 3) := by decide +kernel
theorem dX10_item_38 : decode cX10_item 38 = .ok (.ifCond .ne 6, 3) := by decide +kernel
theorem dX10_item_41 : decode cX10_item 41 = .ok (.bipush (-13), 2) := by decide +kernel
theorem dX10_item_43 : decode cX10_item 43 = .ok (.ireturn, 1) := by decide +kernel
theorem dX10_item_44 : decode cX10_item 44 = .ok (.aload 5, 2) := by decide +kernel
theorem dX10_item_46 : decode cX10_item 46 = .ok (.getfield 274, 3) := by decide +kernel
theorem dX10_item_49 : decode cX10_item 49 = .ok (.iload_n 2, 1) := by decide +kernel
theorem dX10_item_50 : decode cX10_item 50 = .ok (.aload 5, 2) := by decide +kernel
theorem dX10_item_52 : decode cX10_item 52 = .ok (.lload_n 3, 1) := by decide +kernel
theorem dX10_item_53 : decode cX10_item 53 = .ok (.invokevirtual 303, 3) := by decide +kernel
theorem dX10_item_56 : decode cX10_item 56 = .ok (.lastore, 1) := by decide +kernel
theorem dX10_item_57 : decode cX10_item 57 = .ok (.iconst 1, 1) := by decide +kernel
theorem dX10_item_58 : decode cX10_item 58 = .ok (.ireturn, 1) := by decide +kernel
theorem dX10_read_0 : decode cX10_read 0 = .ok (.iload_n 1, 1) := by decide +kernel
theorem dX10_read_1 : decode cX10_read 1 = .ok (.bipush 6, 2) := by decide +kernel
theorem dX10_read_3 : decode cX10_read 3 = .ok (.invokestatic 85, 3) := by decide +kernel
theorem dX10_read_6 : decode cX10_read 6 = .ok (.ifCond .eq 31, 3) := by decide +kernel
theorem dX10_read_9 : decode cX10_read 9 = .ok (.aload_n 0, 1) := by decide +kernel
theorem dX10_read_10 : decode cX10_read 10 = .ok (.getfield 73, 3) := by decide +kernel
theorem dX10_read_13 : decode cX10_read 13 = .ok (.iload_n 1, 1) := by decide +kernel
theorem dX10_read_14 : decode cX10_read 14 = .ok (.aaload, 1) := by decide +kernel
theorem dX10_read_15 : decode cX10_read 15 = .ok (.iload_n 2, 1) := by decide +kernel
theorem dX10_read_16 : decode cX10_read 16 = .ok (.iconst 1, 1) := by decide +kernel
theorem dX10_read_17 : decode cX10_read 17 = .ok (.invokevirtual 270, 3) := by decide +kernel
theorem dX10_read_20 : decode cX10_read 20 = .ok (.ifCond .eq 17, 3) := by decide +kernel
theorem dX10_read_23 : decode cX10_read 23 = .ok (.aload_n 0, 1) := by decide +kernel
theorem dX10_read_24 : decode cX10_read 24 = .ok (.getfield 73, 3) := by decide +kernel
theorem dX10_read_27 : decode cX10_read 27 = .ok (.iload_n 1, 1) := by decide +kernel
theorem dX10_read_28 : decode cX10_read 28 = .ok (.aaload, 1) := by decide +kernel
theorem dX10_read_29 : decode cX10_read 29 = .ok (.getfield 274, 3) := by decide +kernel
theorem dX10_read_32 : decode cX10_read 32 = .ok (.iload_n 2, 1) := by decide +kernel
theorem dX10_read_33 : decode cX10_read 33 = .ok (.laload, 1) := by decide +kernel
theorem dX10_read_34 : decode cX10_read 34 = .ok (.goto 6, 3) := by decide +kernel
theorem dX10_read_37 : decode cX10_read 37 = .ok (.ldc2_w 241, 3) := by decide +kernel
theorem dX10_read_40 : decode cX10_read 40 = .ok (.lreturn, 1) := by decide +kernel
theorem dX10_shift_0 : decode cX10_shift 0 = .ok (.iload_n 1, 1) := by decide +kernel
theorem dX10_shift_1 : decode cX10_shift 1 = .ok (.bipush 6, 2) := by decide +kernel
theorem dX10_shift_3 : decode cX10_shift 3 = .ok (.invokestatic 85, 3) := by decide +kernel
theorem dX10_shift_6 : decode cX10_shift 6 = .ok (.ifCond .eq 12, 3) := by decide +kernel
theorem dX10_shift_9 : decode cX10_shift 9 = .ok (.iload_n 3, 1) := by decide +kernel
theorem dX10_shift_10 : decode cX10_shift 10 = .ok (.bipush 6, 2) := by decide +kernel
theorem dX10_shift_12 : decode cX10_shift 12 = .ok (.invokestatic 85, 3) := by decide +kernel
theorem dX10_shift_15 : decode cX10_shift 15 = .ok (.ifCond .ne 5, 3) := by decide +kernel
theorem dX10_shift_18 : decode cX10_shift 18 = .ok (.iconst (-1), 1) := by decide +kernel
theorem dX10_shift_19 : decode cX10_shift 19 = .ok (.ireturn, 1) := by decide +kernel
theorem dX10_shift_20 : decode cX10_shift 20 = .ok (.aload_n 0, 1) := by decide +kernel
theorem dX10_shift_21 : decode cX10_shift 21 = .ok (.getfield 73, 3) := by decide +kernel
theorem dX10_shift_24 : decode cX10_shift 24 = .ok (.iload_n 1, 1) := by decide +kernel
theorem dX10_shift_25 : decode cX10_shift 25 = .ok (.aaload, 1) := by decide +kernel
theorem dX10_shift_26 : decode cX10_shift 26 = .ok (.astore 6, 2) := by decide +kernel
theorem dX10_shift_28 : decode cX10_shift 28 = .ok (.aload_n 0, 1) := by decide +kernel
theorem dX10_shift_29 : decode cX10_shift 29 = .ok (.getfield 73, 3) := by decide +kernel
theorem dX10_shift_32 : decode cX10_shift 32 = .ok (.iload_n 3, 1) := by decide +kernel
theorem dX10_shift_33 : decode cX10_shift 33 = .ok (.aaload, 1) := by decide +kernel
theorem dX10_shift_34 : decode cX10_shift 34 = .ok (.astore 7, 2) := by decide +kernel
theorem dX10_shift_36 : decode cX10_shift 36 = .ok (.aload 6, 2) := by decide +kernel
theorem dX10_shift_38 : decode cX10_shift 38 = .ok (.getfield 267, 3) := by decide +kernel
theorem dX10_shift_41 : decode cX10_shift 41 = .ok (.iconst (-1), 1) := by decide +kernel
theorem dX10_shift_42 : decode cX10_shift 42 = .ok (.if_icmp .eq 12, 3) := by decide +kernel
theorem dX10_shift_45 : decode cX10_shift 45 = .ok (.aload 7, 2) := by decide +kernel
theorem dX10_shift_47 : decode cX10_shift 47 = .ok (.getfield 267, 3) := by decide +kernel
theorem dX10_shift_50 : decode cX10_shift 50 = .ok (.iconst (-1), 1) := by decide +kernel
theorem dX10_shift_51 : decode cX10_shift 51 = .ok (.if_icmp .ne 6, 3) := by decide +kernel
theorem dX10_shift_54 : decode cX10_shift 54 = .ok (.bipush (-11), 2) := by decide +kernel
theorem dX10_shift_56 : decode cX10_shift 56 = .ok (.ireturn, 1) := by decide +kernel
theorem dX10_shift_57 : decode cX10_shift 57 = .ok (.aload 6, 2) := by decide +kernel
theorem dX10_shift_59 : decode cX10_shift 59 = .ok (.getfield 267, 3) := by decide +kernel
theorem dX10_shift_62 : decode cX10_shift 62 = .ok (.aload 7, 2) := by decide +kernel
theorem dX10_shift_64 : decode cX10_shift 64 = .ok (.getfield 267, 3) := by decide +kernel
theorem dX10_shift_67 : decode cX10_shift 67 = .ok (.if_icmp .eq 6, 3) := by decide +kernel
theorem dX10_shift_70 : decode cX10_shift 70 = .ok (.bipush (-12), 2) := by decide +kernel
theorem dX10_shift_72 : decode cX10_shift 72 = .ok (.ireturn, 1) := by decide +kernel
theorem dX10_shift_73 : decode cX10_shift 73 = .ok (.aload 6, 2) := by decide +kernel
theorem dX10_shift_75 : decode cX10_shift 75 = .ok (.iload_n 2, 1) := by decide +kernel
theorem dX10_shift_76 : decode cX10_shift 76 = .ok (.iload 5, 2) := by decide +kernel
theorem dX10_shift_78 : decode cX10_shift 78 = .ok (.invokevirtual 270, 3) := by decide +kernel
theorem dX10_shift_81 : decode cX10_shift 81 = .ok (.ifCond .eq 15, 3) := by decide +kernel
theorem dX10_shift_84 : decode cX10_shift 84 = .ok (.aload 7, 2) := by decide +kernel
theorem dX10_shift_86 : decode cX10_shift 86 = .ok (.iload 4, 2) := by decide +kernel
theorem dX10_shift_88 : decode cX10_shift 88 = .ok (.iload 5, 2) := by decide +kernel
theorem dX10_shift_90 : decode cX10_shift 90 = .ok (.invokevirtual 270, 3) := by decide +kernel
theorem dX10_shift_93 : decode cX10_shift 93 = .ok (.ifCond .ne 6, 3) := by decide +kernel
theorem dX10_shift_96 : decode cX10_shift 96 = .ok (.bipush (-13), 2) := by decide +kernel
theorem dX10_shift_98 : decode cX10_shift 98 = .ok (.ireturn, 1) := by decide +kernel
theorem dX10_shift_99 : decode cX10_shift 99 = .ok (.aload 6, 2) := by decide +kernel
theorem dX10_shift_101 : decode cX10_shift 101 = .ok (.getfield 274, 3) := by decide +kernel
theorem dX10_shift_104 : decode cX10_shift 104 = .ok (.iload_n 2, 1) := by decide +kernel
theorem dX10_shift_105 : decode cX10_shift 105 = .ok (.aload 7, 2) := by decide +kernel
theorem dX10_shift_107 : decode cX10_shift 107 = .ok (.getfield 274, 3) := by decide +kernel
theorem dX10_shift_110 : decode cX10_shift 110 = .ok (.iload 4, 2) := by decide +kernel
theorem dX10_shift_112 : decode cX10_shift 112 = .ok (.iload 5, 2) := by decide +kernel
theorem dX10_shift_114 : decode cX10_shift 114 = .ok (.invokestatic 307, 3) := by decide +kernel
theorem dX10_shift_117 : decode cX10_shift 117 = .ok (.iload 5, 2) := by decide +kernel
theorem dX10_shift_119 : decode cX10_shift 119 = .ok (.ireturn, 1) := by decide +kernel
theorem dX10_isBelow_0 : decode cX10_isBelow 0 = .ok (.iload_n 0, 1) := by decide +kernel
theorem dX10_isBelow_1 : decode cX10_isBelow 1 = .ok (.ifCond .lt 12, 3) := by decide +kernel
theorem dX10_isBelow_4 : decode cX10_isBelow 4 = .ok (.iload_n 0, 1) := by decide +kernel
theorem dX10_isBelow_5 : decode cX10_isBelow 5 = .ok (.iload_n 1, 1) := by decide +kernel
theorem dX10_isBelow_6 : decode cX10_isBelow 6 = .ok (.if_icmp .ge 7, 3) := by decide +kernel
theorem dX10_isBelow_9 : decode cX10_isBelow 9 = .ok (.iconst 1, 1) := by decide +kernel
theorem dX10_isBelow_10 : decode cX10_isBelow 10 = .ok (.goto 4, 3) := by decide +kernel
theorem dX10_isBelow_13 : decode cX10_isBelow 13 = .ok (.iconst 0, 1) := by decide +kernel
theorem dX10_isBelow_14 : decode cX10_isBelow 14 = .ok (.ireturn, 1) := by decide +kernel
theorem dX10_isWithin_0 : decode cX10_isWithin 0 = .ok (.iload_n 0, 1) := by decide +kernel
theorem dX10_isWithin_1 : decode cX10_isWithin 1 = .ok (.ifCond .lt 12, 3) := by decide +kernel
theorem dX10_isWithin_4 : decode cX10_isWithin 4 = .ok (.iload_n 0, 1) := by decide +kernel
theorem dX10_isWithin_5 : decode cX10_isWithin 5 = .ok (.iload_n 1, 1) := by decide +kernel
theorem dX10_isWithin_6 : decode cX10_isWithin 6 = .ok (.if_icmp .gt 7, 3) := by decide +kernel
theorem dX10_isWithin_9 : decode cX10_isWithin 9 = .ok (.iconst 1, 1) := by decide +kernel
theorem dX10_isWithin_10 : decode cX10_isWithin 10 = .ok (.goto 4, 3) := by decide +kernel
theorem dX10_isWithin_13 : decode cX10_isWithin 13 = .ok (.iconst 0, 1) := by decide +kernel
theorem dX10_isWithin_14 : decode cX10_isWithin 14 = .ok (.ireturn, 1) := by decide +kernel
theorem dX10_isPurpose_0 : decode cX10_isPurpose 0 = .ok (.iload_n 0, 1) := by decide +kernel
theorem dX10_isPurpose_1 : decode cX10_isPurpose 1 = .ok (.bipush 12, 2) := by decide +kernel
theorem dX10_isPurpose_3 : decode cX10_isPurpose 3 = .ok (.invokestatic 85, 3) := by decide +kernel
theorem dX10_isPurpose_6 : decode cX10_isPurpose 6 = .ok (.ireturn, 1) := by decide +kernel
theorem dX10_isGuest_0 : decode cX10_isGuest 0 = .ok (.iload_n 1, 1) := by decide +kernel
theorem dX10_isGuest_1 : decode cX10_isGuest 1 = .ok (.aload_n 0, 1) := by decide +kernel
theorem dX10_isGuest_2 : decode cX10_isGuest 2 = .ok (.getfield 23, 3) := by decide +kernel
theorem dX10_isGuest_5 : decode cX10_isGuest 5 = .ok (.getfield 92, 3) := by decide +kernel
theorem dX10_isGuest_8 : decode cX10_isGuest 8 = .ok (.invokestatic 85, 3) := by decide +kernel
theorem dX10_isGuest_11 : decode cX10_isGuest 11 = .ok (.ireturn, 1) := by decide +kernel
theorem dX10_has_0 : decode cX10_has 0 = .ok (.iload_n 0, 1) := by decide +kernel
theorem dX10_has_1 : decode cX10_has 1 = .ok (.iload_n 1, 1) := by decide +kernel
theorem dX10_has_2 : decode cX10_has 2 = .ok (.ishr, 1) := by decide +kernel
theorem dX10_has_3 : decode cX10_has 3 = .ok (.iconst 1, 1) := by decide +kernel
theorem dX10_has_4 : decode cX10_has 4 = .ok (.iand, 1) := by decide +kernel
theorem dX10_has_5 : decode cX10_has 5 = .ok (.ifCond .eq 7, 3) := by decide +kernel
theorem dX10_has_8 : decode cX10_has 8 = .ok (.iconst 1, 1) := by decide +kernel
theorem dX10_has_9 : decode cX10_has 9 = .ok (.goto 4, 3) := by decide +kernel
theorem dX10_has_12 : decode cX10_has 12 = .ok (.iconst 0, 1) := by decide +kernel
theorem dX10_has_13 : decode cX10_has 13 = .ok (.ireturn, 1) := by decide +kernel
theorem dX10_without_0 : decode cX10_without 0 = .ok (.iload_n 1, 1) := by decide +kernel
theorem dX10_without_1 : decode cX10_without 1 = .ok (.invokestatic 143, 3) := by decide +kernel
theorem dX10_without_4 : decode cX10_without 4 = .ok (.ifCond .eq 13, 3) := by decide +kernel
theorem dX10_without_7 : decode cX10_without 7 = .ok (.iload_n 0, 1) := by decide +kernel
theorem dX10_without_8 : decode cX10_without 8 = .ok (.iconst 1, 1) := by decide +kernel
theorem dX10_without_9 : decode cX10_without 9 = .ok (.iload_n 1, 1) := by decide +kernel
theorem dX10_without_10 : decode cX10_without 10 = .ok (.ishl, 1) := by decide +kernel
theorem dX10_without_11 : decode cX10_without 11 = .ok (.iconst (-1), 1) := by decide +kernel
theorem dX10_without_12 : decode cX10_without 12 = .ok (.ixor, 1) := by decide +kernel
theorem dX10_without_13 : decode cX10_without 13 = .ok (.iand, 1) := by decide +kernel
theorem dX10_without_14 : decode cX10_without 14 = .ok (.goto 4, 3) := by decide +kernel
theorem dX10_without_17 : decode cX10_without 17 = .ok (.iload_n 0, 1) := by decide +kernel
theorem dX10_without_18 : decode cX10_without 18 = .ok (.ireturn, 1) := by decide +kernel
theorem dX10_isUnder_0 : decode cX10_isUnder 0 = .ok (.iload_n 0, 1) := by decide +kernel
theorem dX10_isUnder_1 : decode cX10_isUnder 1 = .ok (.istore_n 2, 1) := by decide +kernel
theorem dX10_isUnder_2 : decode cX10_isUnder 2 = .ok (.iconst 0, 1) := by decide +kernel
theorem dX10_isUnder_3 : decode cX10_isUnder 3 = .ok (.istore_n 3, 1) := by decide +kernel
theorem dX10_isUnder_4 : decode cX10_isUnder 4 = .ok (.iload_n 3, 1) := by decide +kernel
theorem dX10_isUnder_5 : decode cX10_isUnder 5 = .ok (.bipush 7, 2) := by decide +kernel
theorem dX10_isUnder_7 : decode cX10_isUnder 7 = .ok (.if_icmp .ge 31, 3) := by decide +kernel
theorem dX10_isUnder_10 : decode cX10_isUnder 10 = .ok (.iload_n 2, 1) := by decide +kernel
theorem dX10_isUnder_11 : decode cX10_isUnder 11 = .ok (.bipush 7, 2) := by decide +kernel
theorem dX10_isUnder_13 : decode cX10_isUnder 13 = .ok (.invokestatic 85, 3) := by decide +kernel
theorem dX10_isUnder_16 : decode cX10_isUnder 16 = .ok (.ifCond .eq 22, 3) := by decide +kernel
theorem dX10_isUnder_19 : decode cX10_isUnder 19 = .ok (.iload_n 2, 1) := by decide +kernel
theorem dX10_isUnder_20 : decode cX10_isUnder 20 = .ok (.iload_n 1, 1) := by decide +kernel
theorem dX10_isUnder_21 : decode cX10_isUnder 21 = .ok (.if_icmp .ne 5, 3) := by decide +kernel
theorem dX10_isUnder_24 : decode cX10_isUnder 24 = .ok (.iconst 1, 1) := by decide +kernel
theorem dX10_isUnder_25 : decode cX10_isUnder 25 = .ok (.ireturn, 1) := by decide +kernel
theorem dX10_isUnder_26 : decode cX10_isUnder 26 = .ok (.getstatic 313, 3) := by decide +kernel
theorem dX10_isUnder_29 : decode cX10_isUnder 29 = .ok (.iload_n 2, 1) := by decide +kernel
theorem dX10_isUnder_30 : decode cX10_isUnder 30 = .ok (.iaload, 1) := by decide +kernel
theorem dX10_isUnder_31 : decode cX10_isUnder 31 = .ok (.istore_n 2, 1) := by decide +kernel
theorem dX10_isUnder_32 : decode cX10_isUnder 32 = .ok (.iinc 3 1, 3) := by decide +kernel
theorem dX10_isUnder_35 : decode cX10_isUnder 35 = .ok (.goto (-31), 3) := by decide +kernel
theorem dX10_isUnder_38 : decode cX10_isUnder 38 = .ok (.iconst 0, 1) := by decide +kernel
theorem dX10_isUnder_39 : decode cX10_isUnder 39 = .ok (.ireturn, 1) := by decide +kernel
theorem dX10_lureOf_0 : decode cX10_lureOf 0 = .ok (.aload_n 0, 1) := by decide +kernel
theorem dX10_lureOf_1 : decode cX10_lureOf 1 = .ok (.getfield 46, 3) := by decide +kernel
theorem dX10_lureOf_4 : decode cX10_lureOf 4 = .ok (.aload_n 1, 1) := by decide +kernel
theorem dX10_lureOf_5 : decode cX10_lureOf 5 = .ok (.getfield 102, 3) := by decide +kernel
theorem dX10_lureOf_8 : decode cX10_lureOf 8 = .ok (.aaload, 1) := by decide +kernel
theorem dX10_lureOf_9 : decode cX10_lureOf 9 = .ok (.astore_n 2, 1) := by decide +kernel
theorem dX10_lureOf_10 : decode cX10_lureOf 10 = .ok (.aload_n 2, 1) := by decide +kernel
theorem dX10_lureOf_11 : decode cX10_lureOf 11 = .ok (.aload_n 0, 1) := by decide +kernel
theorem dX10_lureOf_12 : decode cX10_lureOf 12 = .ok (.getfield 23, 3) := by decide +kernel
theorem dX10_lureOf_15 : decode cX10_lureOf 15 = .ok (.aload_n 1, 1) := by decide +kernel
theorem dX10_lureOf_16 : decode cX10_lureOf 16 = .ok (.invokevirtual 316, 3) := by decide +kernel
theorem dX10_lureOf_19 : decode cX10_lureOf 19 = .ok (.aload_n 2, 1) := by decide +kernel
theorem dX10_lureOf_20 : decode cX10_lureOf 20 = .ok (.areturn, 1) := by decide +kernel
theorem dX10_settle_0 : decode cX10_settle 0 = .ok (.iconst 0, 1) := by decide +kernel
theorem dX10_settle_1 : decode cX10_settle 1 = .ok (.istore_n 2, 1) := by decide +kernel
theorem dX10_settle_2 : decode cX10_settle 2 = .ok (.iload_n 2, 1) := by decide +kernel
theorem dX10_settle_3 : decode cX10_settle 3 = .ok (.aload_n 1, 1) := by decide +kernel
theorem dX10_settle_4 : decode cX10_settle 4 = .ok (.getfield 92, 3) := by decide +kernel
theorem dX10_settle_7 : decode cX10_settle 7 = .ok (.if_icmp .ge 25, 3) := by decide +kernel
theorem dX10_settle_10 : decode cX10_settle 10 = .ok (.aload_n 0, 1) := by decide +kernel
theorem dX10_settle_11 : decode cX10_settle 11 = .ok (.getfield 46, 3) := by decide +kernel
theorem dX10_settle_14 : decode cX10_settle 14 = .ok (.iload_n 2, 1) := by decide +kernel
theorem dX10_settle_15 : decode cX10_settle 15 = .ok (.aaload, 1) := by decide +kernel
theorem dX10_settle_16 : decode cX10_settle 16 = .ok (.aload_n 1, 1) := by decide +kernel
theorem dX10_settle_17 : decode cX10_settle 17 = .ok (.aload_n 1, 1) := by decide +kernel
theorem dX10_settle_18 : decode cX10_settle 18 = .ok (.getfield 77, 3) := by decide +kernel
theorem dX10_settle_21 : decode cX10_settle 21 = .ok (.iload_n 2, 1) := by decide +kernel
theorem dX10_settle_22 : decode cX10_settle 22 = .ok (.aaload, 1) := by decide +kernel
theorem dX10_settle_23 : decode cX10_settle 23 = .ok (.invokevirtual 316, 3) := by decide +kernel
theorem dX10_settle_26 : decode cX10_settle 26 = .ok (.iinc 2 1, 3) := by decide +kernel
theorem dX10_settle_29 : decode cX10_settle 29 = .ok (.goto (-27), 3) := by decide +kernel
theorem dX10_settle_32 : decode cX10_settle 32 = .ok (.return_, 1) := by decide +kernel
theorem dX10_goNight_0 : decode cX10_goNight 0 = .ok (.iconst 0, 1) := by decide +kernel
theorem dX10_goNight_1 : decode cX10_goNight 1 = .ok (.istore_n 2, 1) := by decide +kernel
theorem dX10_goNight_2 : decode cX10_goNight 2 = .ok (.iload_n 2, 1) := by decide +kernel
theorem dX10_goNight_3 : decode cX10_goNight 3 = .ok (.aload_n 1, 1) := by decide +kernel
theorem dX10_goNight_4 : decode cX10_goNight 4 = .ok (.getfield 92, 3) := by decide +kernel
theorem dX10_goNight_7 : decode cX10_goNight 7 = .ok (.if_icmp .ge 50, 3) := by decide +kernel
theorem dX10_goNight_10 : decode cX10_goNight 10 = .ok (.aload_n 0, 1) := by decide +kernel
theorem dX10_goNight_11 : decode cX10_goNight 11 = .ok (.getfield 46, 3) := by decide +kernel
theorem dX10_goNight_14 : decode cX10_goNight 14 = .ok (.iload_n 2, 1) := by decide +kernel
theorem dX10_goNight_15 : decode cX10_goNight 15 = .ok (.aaload, 1) := by decide +kernel
theorem dX10_goNight_16 : decode cX10_goNight 16 = .ok (.aload_n 1, 1) := by decide +kernel
theorem dX10_goNight_17 : decode cX10_goNight 17 = .ok (.getfield 77, 3) := by decide +kernel
theorem dX10_goNight_20 : decode cX10_goNight 20 = .ok (.iload_n 2, 1) := by decide +kernel
theorem dX10_goNight_21 : decode cX10_goNight 21 = .ok (.aaload, 1) := by decide +kernel
theorem dX10_goNight_22 : decode cX10_goNight 22 = .ok (.getfield 115, 3) := by decide +kernel
theorem dX10_goNight_25 : decode cX10_goNight 25 = .ok (.aload_n 1, 1) := by decide +kernel
theorem dX10_goNight_26 : decode cX10_goNight 26 = .ok (.getfield 129, 3) := by decide +kernel
theorem dX10_goNight_29 : decode cX10_goNight 29 = .ok (.invokevirtual 132, 3) := by decide +kernel
theorem dX10_goNight_32 : decode cX10_goNight 32 = .ok (.istore_n 3, 1) := by decide +kernel
theorem dX10_goNight_33 : decode cX10_goNight 33 = .ok (.iload_n 3, 1) := by decide +kernel
theorem dX10_goNight_34 : decode cX10_goNight 34 = .ok (.invokestatic 143, 3) := by decide +kernel
theorem dX10_goNight_37 : decode cX10_goNight 37 = .ok (.ifCond .eq 14, 3) := by decide +kernel
theorem dX10_goNight_40 : decode cX10_goNight 40 = .ok (.aload_n 1, 1) := by decide +kernel
theorem dX10_goNight_41 : decode cX10_goNight 41 = .ok (.aload_n 1, 1) := by decide +kernel
theorem dX10_goNight_42 : decode cX10_goNight 42 = .ok (.getfield 77, 3) := by decide +kernel
theorem dX10_goNight_45 : decode cX10_goNight 45 = .ok (.iload_n 2, 1) := by decide +kernel
theorem dX10_goNight_46 : decode cX10_goNight 46 = .ok (.aaload, 1) := by decide +kernel
theorem dX10_goNight_47 : decode cX10_goNight 47 = .ok (.iload_n 3, 1) := by decide +kernel
theorem dX10_goNight_48 : decode cX10_goNight 48 = .ok (.invokevirtual 318, 3) := by decide +kernel
theorem dX10_goNight_51 : decode cX10_goNight 51 = .ok (.iinc 2 1, 3) := by decide +kernel
theorem dX10_goNight_54 : decode cX10_goNight 54 = .ok (.goto (-52), 3) := by decide +kernel
theorem dX10_goNight_57 : decode cX10_goNight 57 = .ok (.aload_n 1, 1) := by decide +kernel
theorem dX10_goNight_58 : decode cX10_goNight 58 = .ok (.dup, 1) := by decide +kernel
theorem dX10_goNight_59 : decode cX10_goNight 59 = .ok (.getfield 129, 3) := by decide +kernel
theorem dX10_goNight_62 : decode cX10_goNight 62 = .ok (.iconst 1, 1) := by decide +kernel
theorem dX10_goNight_63 : decode cX10_goNight 63 = .ok (.iadd, 1) := by decide +kernel
theorem dX10_goNight_64 : decode cX10_goNight 64 = .ok (.putfield 129, 3) := by decide +kernel
theorem dX10_goNight_67 : decode cX10_goNight 67 = .ok (.aload_n 1, 1) := by decide +kernel
theorem dX10_goNight_68 : decode cX10_goNight 68 = .ok (.getfield 182, 3) := by decide +kernel
theorem dX10_goNight_71 : decode cX10_goNight 71 = .ok (.getfield 185, 3) := by decide +kernel
theorem dX10_goNight_74 : decode cX10_goNight 74 = .ok (.ifCond .le 22, 3) := by decide +kernel
theorem dX10_goNight_77 : decode cX10_goNight 77 = .ok (.aload_n 1, 1) := by decide +kernel
theorem dX10_goNight_78 : decode cX10_goNight 78 = .ok (.getfield 129, 3) := by decide +kernel
theorem dX10_goNight_81 : decode cX10_goNight 81 = .ok (.aload_n 1, 1) := by decide +kernel
theorem dX10_goNight_82 : decode cX10_goNight 82 = .ok (.getfield 182, 3) := by decide +kernel
theorem dX10_goNight_85 : decode cX10_goNight 85 = .ok (.getfield 185, 3) := by decide +kernel
theorem dX10_goNight_88 : decode cX10_goNight 88 = .ok (.irem, 1) := by decide +kernel
theorem dX10_goNight_89 : decode cX10_goNight 89 = .ok (.ifCond .ne 7, 3) := by decide +kernel
theorem dX10_goNight_92 : decode cX10_goNight 92 = .ok (.aload_n 1, 1) := by decide +kernel
theorem dX10_goNight_93 : decode cX10_goNight 93 = .ok (.invokevirtual 322, 3) := by decide +kernel
theorem dX10_goNight_96 : decode cX10_goNight 96 = .ok (.return_, 1) := by decide +kernel
theorem dX10_behind_0 : decode cX10_behind 0 = .ok (.aload_n 0, 1) := by decide +kernel
theorem dX10_behind_1 : decode cX10_behind 1 = .ok (.getfield 30, 3) := by decide +kernel
theorem dX10_behind_4 : decode cX10_behind 4 = .ok (.aload_n 0, 1) := by decide +kernel
theorem dX10_behind_5 : decode cX10_behind 5 = .ok (.getfield 23, 3) := by decide +kernel
theorem dX10_behind_8 : decode cX10_behind 8 = .ok (.invokevirtual 250, 3) := by decide +kernel
theorem dX10_behind_11 : decode cX10_behind 11 = .ok (.aload_n 0, 1) := by decide +kernel
theorem dX10_behind_12 : decode cX10_behind 12 = .ok (.aload_n 0, 1) := by decide +kernel
theorem dX10_behind_13 : decode cX10_behind 13 = .ok (.getfield 30, 3) := by decide +kernel
theorem dX10_behind_16 : decode cX10_behind 16 = .ok (.invokevirtual 198, 3) := by decide +kernel
theorem dX10_behind_19 : decode cX10_behind 19 = .ok (.iconst 0, 1) := by decide +kernel
theorem dX10_behind_20 : decode cX10_behind 20 = .ok (.istore_n 2, 1) := by decide +kernel
theorem dX10_behind_21 : decode cX10_behind 21 = .ok (.iload_n 2, 1) := by decide +kernel
theorem dX10_behind_22 : decode cX10_behind 22 = .ok (.iload_n 1, 1) := by decide +kernel
theorem dX10_behind_23 : decode cX10_behind 23 = .ok (.if_icmp .ge 17, 3) := by decide +kernel
theorem dX10_behind_26 : decode cX10_behind 26 = .ok (.aload_n 0, 1) := by decide +kernel
theorem dX10_behind_27 : decode cX10_behind 27 = .ok (.aload_n 0, 1) := by decide +kernel
theorem dX10_behind_28 : decode cX10_behind 28 = .ok (.getfield 30, 3) := by decide +kernel
theorem dX10_behind_31 : decode cX10_behind 31 = .ok (.invokevirtual 202, 3) := by decide +kernel
theorem dX10_behind_34 : decode cX10_behind 34 = .ok (.iinc 2 1, 3) := by decide +kernel
theorem dX10_behind_37 : decode cX10_behind 37 = .ok (.goto (-16), 3) := by decide +kernel
theorem dX10_behind_40 : decode cX10_behind 40 = .ok (.aload_n 0, 1) := by decide +kernel
theorem dX10_behind_41 : decode cX10_behind 41 = .ok (.getfield 30, 3) := by decide +kernel
theorem dX10_behind_44 : decode cX10_behind 44 = .ok (.areturn, 1) := by decide +kernel
theorem dX10_goRow_0 : decode cX10_goRow 0 = .ok (.iload_n 2, 1) := by decide +kernel
theorem dX10_goRow_1 : decode cX10_goRow 1 = .ok (.ifCond .ne 11, 3) := by decide +kernel
theorem dX10_goRow_4 : decode cX10_goRow 4 = .ok (.aload_n 0, 1) := by decide +kernel
theorem dX10_goRow_5 : decode cX10_goRow 5 = .ok (.aload_n 1, 1) := by decide +kernel
theorem dX10_goRow_6 : decode cX10_goRow 6 = .ok (.invokevirtual 202, 3) := by decide +kernel
theorem dX10_goRow_9 : decode cX10_goRow 9 = .ok (.goto 78, 3) := by decide +kernel
theorem dX10_goRow_12 : decode cX10_goRow 12 = .ok (.iload_n 3, 1) := by decide +kernel
theorem dX10_goRow_13 : decode cX10_goRow 13 = .ok (.aload_n 1, 1) := by decide +kernel
theorem dX10_goRow_14 : decode cX10_goRow 14 = .ok (.getfield 92, 3) := by decide +kernel
theorem dX10_goRow_17 : decode cX10_goRow 17 = .ok (.invokestatic 85, 3) := by decide +kernel
theorem dX10_goRow_20 : decode cX10_goRow 20 = .ok (.ifCond .eq 67, 3) := by decide +kernel
theorem dX10_goRow_23 : decode cX10_goRow 23 = .ok (.aload_n 1, 1) := by decide +kernel
theorem dX10_goRow_24 : decode cX10_goRow 24 = .ok (.getfield 77, 3) := by decide +kernel
theorem dX10_goRow_27 : decode cX10_goRow 27 = .ok (.iload_n 3, 1) := by decide +kernel
theorem dX10_goRow_28 : decode cX10_goRow 28 = .ok (.aaload, 1) := by decide +kernel
theorem dX10_goRow_29 : decode cX10_goRow 29 = .ok (.astore 4, 2) := by decide +kernel
theorem dX10_goRow_31 : decode cX10_goRow 31 = .ok (.iload_n 2, 1) := by decide +kernel
theorem dX10_goRow_32 : decode cX10_goRow 32 = .ok (.iconst 3, 1) := by decide +kernel
theorem dX10_goRow_33 : decode cX10_goRow 33 = .ok (.if_icmp .ne 39, 3) := by decide +kernel
theorem dX10_goRow_36 : decode cX10_goRow 36 = .ok (.aload 4, 2) := by decide +kernel
theorem dX10_goRow_38 : decode cX10_goRow 38 = .ok (.dup, 1) := by decide +kernel
theorem dX10_goRow_39 : decode cX10_goRow 39 = .ok (.getfield 115, 3) := by decide +kernel
theorem dX10_goRow_42 : decode cX10_goRow 42 = .ok (.aload 4, 2) := by decide +kernel
theorem dX10_goRow_44 : decode cX10_goRow 44 = .ok (.getfield 118, 3) := by decide +kernel
theorem dX10_goRow_47 : decode cX10_goRow 47 = .ok (.ior, 1) := by decide +kernel
theorem dX10_goRow_48 : decode cX10_goRow 48 = .ok (.putfield 115, 3) := by decide +kernel
theorem dX10_goRow_51 : decode cX10_goRow 51 = .ok (.aload 4, 2) := by decide +kernel
theorem dX10_goRow_53 : decode cX10_goRow 53 = .ok (.iconst 0, 1) := by decide +kernel
theorem dX10_goRow_54 : decode cX10_goRow 54 = .ok (.putfield 118, 3) := by decide +kernel
theorem dX10_goRow_57 : decode cX10_goRow 57 = .ok (.aload_n 0, 1) := by decide +kernel
theorem dX10_goRow_58 : decode cX10_goRow 58 = .ok (.getfield 46, 3) := by decide +kernel
theorem dX10_goRow_61 : decode cX10_goRow 61 = .ok (.iload_n 3, 1) := by decide +kernel
theorem dX10_goRow_62 : decode cX10_goRow 62 = .ok (.aaload, 1) := by decide +kernel
theorem dX10_goRow_63 : decode cX10_goRow 63 = .ok (.aload_n 1, 1) := by decide +kernel
theorem dX10_goRow_64 : decode cX10_goRow 64 = .ok (.aload 4, 2) := by decide +kernel
theorem dX10_goRow_66 : decode cX10_goRow 66 = .ok (.invokevirtual 316, 3) := by decide +kernel
theorem dX10_goRow_69 : decode cX10_goRow 69 = .ok (.goto 18, 3) := by decide +kernel
theorem dX10_goRow_72 : decode cX10_goRow 72 = .ok (.aload 4, 2) := by decide +kernel
theorem dX10_goRow_74 : decode cX10_goRow 74 = .ok (.iload_n 2, 1) := by decide +kernel
theorem dX10_goRow_75 : decode cX10_goRow 75 = .ok (.iconst 2, 1) := by decide +kernel
theorem dX10_goRow_76 : decode cX10_goRow 76 = .ok (.if_icmp .ne 7, 3) := by decide +kernel
theorem dX10_goRow_79 : decode cX10_goRow 79 = .ok (.iconst 1, 1) := by decide +kernel
theorem dX10_goRow_80 : decode cX10_goRow 80 = .ok (.goto 4, 3) := by decide +kernel
theorem dX10_goRow_83 : decode cX10_goRow 83 = .ok (.iconst 0, 1) := by decide +kernel
theorem dX10_goRow_84 : decode cX10_goRow 84 = .ok (.putfield 121, 3) := by decide +kernel
theorem dX10_goRow_87 : decode cX10_goRow 87 = .ok (.return_, 1) := by decide +kernel
theorem dX10_nightsToEmpty_0 : decode cX10_nightsToEmpty 0 = .ok (.aload_n 0, 1) := by decide +kernel
theorem dX10_nightsToEmpty_1 : decode cX10_nightsToEmpty 1 = .ok (.aload_n 1, 1) := by decide +kernel
theorem dX10_nightsToEmpty_2 : decode cX10_nightsToEmpty 2 = .ok (.invokevirtual 125, 3) := by decide +kernel
theorem dX10_nightsToEmpty_5 : decode cX10_nightsToEmpty 5 = .ok (.astore_n 2, 1) := by decide +kernel
theorem dX10_nightsToEmpty_6 : decode cX10_nightsToEmpty 6 = .ok (.aload_n 1, 1) := by decide +kernel
theorem dX10_nightsToEmpty_7 : decode cX10_nightsToEmpty 7 = .ok (.getfield 115, 3) := by decide +kernel
theorem dX10_nightsToEmpty_10 : decode cX10_nightsToEmpty 10 = .ok (.istore_n 3, 1) := by decide +kernel
theorem dX10_nightsToEmpty_11 : decode cX10_nightsToEmpty 11 = .ok (.iconst 0, 1) := by decide +kernel
theorem dX10_nightsToEmpty_12 : decode cX10_nightsToEmpty 12 = .ok (.istore 4, 2) := by decide +kernel
theorem dX10_nightsToEmpty_14 : decode cX10_nightsToEmpty 14 = .ok (.iload 4, 2) := by decide +kernel
theorem dX10_nightsToEmpty_16 : decode cX10_nightsToEmpty 16 = .ok (.bipush 60, 2) := by decide +kernel
theorem dX10_nightsToEmpty_18 : decode cX10_nightsToEmpty 18 = .ok (.if_icmp .gt 36, 3) := by decide +kernel
theorem dX10_nightsToEmpty_21 : decode cX10_nightsToEmpty 21 = .ok (.iload_n 3, 1) := by decide +kernel
theorem dX10_nightsToEmpty_22 : decode cX10_nightsToEmpty 22 = .ok (.ifCond .ne 6, 3) := by decide +kernel
theorem dX10_nightsToEmpty_25 : decode cX10_nightsToEmpty 25 = .ok (.iload 4, 2) := by decide +kernel
theorem dX10_nightsToEmpty_27 : decode cX10_nightsToEmpty 27 = .ok (.ireturn, 1) := by decide +kernel
theorem dX10_nightsToEmpty_28 : decode cX10_nightsToEmpty 28 = .ok (.iload_n 3, 1) := by decide +kernel
theorem dX10_nightsToEmpty_29 : decode cX10_nightsToEmpty 29 = .ok (.aload_n 2, 1) := by decide +kernel
theorem dX10_nightsToEmpty_30 : decode cX10_nightsToEmpty 30 = .ok (.iload_n 3, 1) := by decide +kernel
theorem dX10_nightsToEmpty_31 : decode cX10_nightsToEmpty 31 = .ok (.aload_n 0, 1) := by decide +kernel
theorem dX10_nightsToEmpty_32 : decode cX10_nightsToEmpty 32 = .ok (.getfield 23, 3) := by decide +kernel
theorem dX10_nightsToEmpty_35 : decode cX10_nightsToEmpty 35 = .ok (.getfield 129, 3) := by decide +kernel
theorem dX10_nightsToEmpty_38 : decode cX10_nightsToEmpty 38 = .ok (.iload 4, 2) := by decide +kernel
theorem dX10_nightsToEmpty_40 : decode cX10_nightsToEmpty 40 = .ok (.iadd, 1) := by decide +kernel
theorem dX10_nightsToEmpty_41 : decode cX10_nightsToEmpty 41 = .ok (.invokevirtual 132, 3) := by decide +kernel
theorem dX10_nightsToEmpty_44 : decode cX10_nightsToEmpty 44 = .ok (.invokestatic 209, 3) := by decide +kernel
theorem dX10_nightsToEmpty_47 : decode cX10_nightsToEmpty 47 = .ok (.istore_n 3, 1) := by decide +kernel
theorem dX10_nightsToEmpty_48 : decode cX10_nightsToEmpty 48 = .ok (.iinc 4 1, 3) := by decide +kernel
theorem dX10_nightsToEmpty_51 : decode cX10_nightsToEmpty 51 = .ok (.goto (-37), 3) := by decide +kernel
theorem dX10_nightsToEmpty_54 : decode cX10_nightsToEmpty 54 = .ok (.bipush (-5), 2) := by decide +kernel
theorem dX10_nightsToEmpty_56 : decode cX10_nightsToEmpty 56 = .ok (.ireturn, 1) := by decide +kernel
theorem dX10_backTo_0 : decode cX10_backTo 0 = .ok (.aload_n 0, 1) := by decide +kernel
theorem dX10_backTo_1 : decode cX10_backTo 1 = .ok (.getfield 23, 3) := by decide +kernel
theorem dX10_backTo_4 : decode cX10_backTo 4 = .ok (.invokevirtual 325, 3) := by decide +kernel
theorem dX10_backTo_7 : decode cX10_backTo 7 = .ok (.istore_n 2, 1) := by decide +kernel
theorem dX10_backTo_8 : decode cX10_backTo 8 = .ok (.iconst 0, 1) := by decide +kernel
theorem dX10_backTo_9 : decode cX10_backTo 9 = .ok (.istore_n 3, 1) := by decide +kernel
theorem dX10_backTo_10 : decode cX10_backTo 10 = .ok (.iload_n 3, 1) := by decide +kernel
theorem dX10_backTo_11 : decode cX10_backTo 11 = .ok (.aload_n 0, 1) := by decide +kernel
theorem dX10_backTo_12 : decode cX10_backTo 12 = .ok (.getfield 23, 3) := by decide +kernel
theorem dX10_backTo_15 : decode cX10_backTo 15 = .ok (.getfield 92, 3) := by decide +kernel
theorem dX10_backTo_18 : decode cX10_backTo 18 = .ok (.if_icmp .ge 24, 3) := by decide +kernel
theorem dX10_backTo_21 : decode cX10_backTo 21 = .ok (.iload_n 2, 1) := by decide +kernel
theorem dX10_backTo_22 : decode cX10_backTo 22 = .ok (.aload_n 0, 1) := by decide +kernel
theorem dX10_backTo_23 : decode cX10_backTo 23 = .ok (.getfield 23, 3) := by decide +kernel
theorem dX10_backTo_26 : decode cX10_backTo 26 = .ok (.getfield 77, 3) := by decide +kernel
theorem dX10_backTo_29 : decode cX10_backTo 29 = .ok (.iload_n 3, 1) := by decide +kernel
theorem dX10_backTo_30 : decode cX10_backTo 30 = .ok (.aaload, 1) := by decide +kernel
theorem dX10_backTo_31 : decode cX10_backTo 31 = .ok (.getfield 115, 3) := by decide +kernel
theorem dX10_backTo_34 : decode cX10_backTo 34 = .ok (.ior, 1) := by decide +kernel
theorem dX10_backTo_35 : decode cX10_backTo 35 = .ok (.istore_n 2, 1) := by decide +kernel
theorem dX10_backTo_36 : decode cX10_backTo 36 = .ok (.iinc 3 1, 3) := by decide +kernel
theorem dX10_backTo_39 : decode cX10_backTo 39 = .ok (.goto (-29), 3) := by decide +kernel
theorem dX10_backTo_42 : decode cX10_backTo 42 = .ok (.iload_n 2, 1) := by decide +kernel
theorem dX10_backTo_43 : decode cX10_backTo 43 = .ok (.aload_n 1, 1) := by decide +kernel
theorem dX10_backTo_44 : decode cX10_backTo 44 = .ok (.invokevirtual 153, 3) := by decide +kernel
theorem dX10_backTo_47 : decode cX10_backTo 47 = .ok (.iand, 1) := by decide +kernel
theorem dX10_backTo_48 : decode cX10_backTo 48 = .ok (.ireturn, 1) := by decide +kernel
theorem dX10_fewestDecoys_0 : decode cX10_fewestDecoys 0 = .ok (.aload_n 0, 1) := by decide +kernel
theorem dX10_fewestDecoys_1 : decode cX10_fewestDecoys 1 = .ok (.aload_n 1, 1) := by decide +kernel
theorem dX10_fewestDecoys_2 : decode cX10_fewestDecoys 2 = .ok (.invokevirtual 125, 3) := by decide +kernel
theorem dX10_fewestDecoys_5 : decode cX10_fewestDecoys 5 = .ok (.astore 4, 2) := by decide +kernel
theorem dX10_fewestDecoys_7 : decode cX10_fewestDecoys 7 = .ok (.bipush (-5), 2) := by decide +kernel
theorem dX10_fewestDecoys_9 : decode cX10_fewestDecoys 9 = .ok (.istore 5, 2) := by decide +kernel
theorem dX10_fewestDecoys_11 : decode cX10_fewestDecoys 11 = .ok (.bipush 13, 2) := by decide +kernel
theorem dX10_fewestDecoys_13 : decode cX10_fewestDecoys 13 = .ok (.istore 6, 2) := by decide +kernel
theorem dX10_fewestDecoys_15 : decode cX10_fewestDecoys 15 = .ok (.iconst 0, 1) := by decide +kernel
theorem dX10_fewestDecoys_16 : decode cX10_fewestDecoys 16 = .ok (.istore 7, 2) := by decide +kernel
theorem dX10_fewestDecoys_18 : decode cX10_fewestDecoys 18 = .ok (.iload 7, 2) := by decide +kernel
theorem dX10_fewestDecoys_20 : decode cX10_fewestDecoys 20 = .ok (.sipush 4095, 3) := by decide +kernel
theorem dX10_fewestDecoys_23 : decode cX10_fewestDecoys 23 = .ok (.if_icmp .gt 59, 3) := by decide +kernel
theorem dX10_fewestDecoys_26 : decode cX10_fewestDecoys 26 = .ok (.iload 7, 2) := by decide +kernel
theorem dX10_fewestDecoys_28 : decode cX10_fewestDecoys 28 = .ok (.invokestatic 328, 3) := by decide +kernel
theorem dX10_fewestDecoys_31 : decode cX10_fewestDecoys 31 = .ok (.istore 8, 2) := by decide +kernel
theorem dX10_fewestDecoys_33 : decode cX10_fewestDecoys 33 = .ok (.iload 7, 2) := by decide +kernel
theorem dX10_fewestDecoys_35 : decode cX10_fewestDecoys 35 = .ok (.aload_n 1, 1) := by decide +kernel
theorem dX10_fewestDecoys_36 : decode cX10_fewestDecoys 36 = .ok (.getfield 115, 3) := by decide +kernel
theorem dX10_fewestDecoys_39 : decode cX10_fewestDecoys 39 = .ok (.iand, 1) := by decide +kernel
theorem dX10_fewestDecoys_40 : decode cX10_fewestDecoys 40 = .ok (.ifCond .ne 36, 3) := by decide +kernel
theorem dX10_fewestDecoys_43 : decode cX10_fewestDecoys 43 = .ok (.iload 8, 2) := by decide +kernel
theorem dX10_fewestDecoys_45 : decode cX10_fewestDecoys 45 = .ok (.iload 6, 2) := by decide +kernel
theorem dX10_fewestDecoys_47 : decode cX10_fewestDecoys 47 = .ok (.if_icmp .ge 29, 3) := by decide +kernel
theorem dX10_fewestDecoys_50 : decode cX10_fewestDecoys 50 = .ok (.aload_n 0, 1) := by decide +kernel
theorem dX10_fewestDecoys_51 : decode cX10_fewestDecoys 51 = .ok (.aload 4, 2) := by decide +kernel
theorem dX10_fewestDecoys_53 : decode cX10_fewestDecoys 53 = .ok (.aload_n 1, 1) := by decide +kernel
theorem dX10_fewestDecoys_54 : decode cX10_fewestDecoys 54 = .ok (.getfield 115, 3) := by decide +kernel
theorem dX10_fewestDecoys_57 : decode cX10_fewestDecoys 57 = .ok (.iload 7, 2) := by decide +kernel
theorem dX10_fewestDecoys_59 : decode cX10_fewestDecoys 59 = .ok (.ior, 1) := by decide +kernel
theorem dX10_fewestDecoys_60 : decode cX10_fewestDecoys 60 = .ok (.iload_n 2, 1) := by decide +kernel
theorem dX10_fewestDecoys_61 : decode cX10_fewestDecoys 61 = .ok (.iload_n 3, 1) := by decide +kernel
theorem dX10_fewestDecoys_62 : decode cX10_fewestDecoys 62 = .ok (.invokevirtual 334, 3) := by decide +kernel
theorem dX10_fewestDecoys_65 : decode cX10_fewestDecoys 65 = .ok (.ifCond .eq 11, 3) := by decide +kernel
theorem dX10_fewestDecoys_68 : decode cX10_fewestDecoys 68 = .ok (.iload 7, 2) := by decide +kernel
theorem dX10_fewestDecoys_70 : decode cX10_fewestDecoys 70 = .ok (.istore 5, 2) := by decide +kernel
theorem dX10_fewestDecoys_72 : decode cX10_fewestDecoys 72 = .ok (.iload 8, 2) := by decide +kernel
theorem dX10_fewestDecoys_74 : decode cX10_fewestDecoys 74 = .ok (.istore 6, 2) := by decide +kernel
theorem dX10_fewestDecoys_76 : decode cX10_fewestDecoys 76 = .ok (.iinc 7 1, 3) := by decide +kernel
theorem dX10_fewestDecoys_79 : decode cX10_fewestDecoys 79 = .ok (.goto (-61), 3) := by decide +kernel
theorem dX10_fewestDecoys_82 : decode cX10_fewestDecoys 82 = .ok (.iload 5, 2) := by decide +kernel
theorem dX10_fewestDecoys_84 : decode cX10_fewestDecoys 84 = .ok (.ireturn, 1) := by decide +kernel
theorem dX10_keeps_0 : decode cX10_keeps 0 = .ok (.iload_n 2, 1) := by decide +kernel
theorem dX10_keeps_1 : decode cX10_keeps 1 = .ok (.istore 5, 2) := by decide +kernel
theorem dX10_keeps_3 : decode cX10_keeps 3 = .ok (.iconst 0, 1) := by decide +kernel
theorem dX10_keeps_4 : decode cX10_keeps 4 = .ok (.istore 6, 2) := by decide +kernel
theorem dX10_keeps_6 : decode cX10_keeps 6 = .ok (.iload 6, 2) := by decide +kernel
theorem dX10_keeps_8 : decode cX10_keeps 8 = .ok (.iload 4, 2) := by decide +kernel
theorem dX10_keeps_10 : decode cX10_keeps 10 = .ok (.if_icmp .ge 41, 3) := by decide +kernel
theorem dX10_keeps_13 : decode cX10_keeps 13 = .ok (.iload 5, 2) := by decide +kernel
theorem dX10_keeps_15 : decode cX10_keeps 15 = .ok (.iload_n 3, 1) := by decide +kernel
theorem dX10_keeps_16 : decode cX10_keeps 16 = .ok (.invokestatic 157, 3) := by decide +kernel
theorem dX10_keeps_19 : decode cX10_keeps 19 = .ok (.ifCond .eq 32, 3) := by decide +kernel
theorem dX10_keeps_22 : decode cX10_keeps 22 = .ok (.iload 5, 2) := by decide +kernel
theorem dX10_keeps_24 : decode cX10_keeps 24 = .ok (.aload_n 1, 1) := by decide +kernel
theorem dX10_keeps_25 : decode cX10_keeps 25 = .ok (.iload 5, 2) := by decide +kernel
theorem dX10_keeps_27 : decode cX10_keeps 27 = .ok (.aload_n 0, 1) := by decide +kernel
theorem dX10_keeps_28 : decode cX10_keeps 28 = .ok (.getfield 23, 3) := by decide +kernel
theorem dX10_keeps_31 : decode cX10_keeps 31 = .ok (.getfield 129, 3) := by decide +kernel
theorem dX10_keeps_34 : decode cX10_keeps 34 = .ok (.iload 6, 2) := by decide +kernel
theorem dX10_keeps_36 : decode cX10_keeps 36 = .ok (.iadd, 1) := by decide +kernel
theorem dX10_keeps_37 : decode cX10_keeps 37 = .ok (.invokevirtual 132, 3) := by decide +kernel
theorem dX10_keeps_40 : decode cX10_keeps 40 = .ok (.invokestatic 209, 3) := by decide +kernel
theorem dX10_keeps_43 : decode cX10_keeps 43 = .ok (.istore 5, 2) := by decide +kernel
theorem dX10_keeps_45 : decode cX10_keeps 45 = .ok (.iinc 6 1, 3) := by decide +kernel
theorem dX10_keeps_48 : decode cX10_keeps 48 = .ok (.goto (-42), 3) := by decide +kernel
theorem dX10_keeps_51 : decode cX10_keeps 51 = .ok (.iload 5, 2) := by decide +kernel
theorem dX10_keeps_53 : decode cX10_keeps 53 = .ok (.iload_n 3, 1) := by decide +kernel
theorem dX10_keeps_54 : decode cX10_keeps 54 = .ok (.invokestatic 157, 3) := by decide +kernel
theorem dX10_keeps_57 : decode cX10_keeps 57 = .ok (.ireturn, 1) := by decide +kernel
theorem dX10_lowest_0 : decode cX10_lowest 0 = .ok (.iload_n 0, 1) := by decide +kernel
theorem dX10_lowest_1 : decode cX10_lowest 1 = .ok (.istore_n 3, 1) := by decide +kernel
theorem dX10_lowest_2 : decode cX10_lowest 2 = .ok (.iload_n 1, 1) := by decide +kernel
theorem dX10_lowest_3 : decode cX10_lowest 3 = .ok (.istore 4, 2) := by decide +kernel
theorem dX10_lowest_5 : decode cX10_lowest 5 = .ok (.iconst 0, 1) := by decide +kernel
theorem dX10_lowest_6 : decode cX10_lowest 6 = .ok (.istore 5, 2) := by decide +kernel
theorem dX10_lowest_8 : decode cX10_lowest 8 = .ok (.iload 5, 2) := by decide +kernel
theorem dX10_lowest_10 : decode cX10_lowest 10 = .ok (.iload_n 1, 1) := by decide +kernel
theorem dX10_lowest_11 : decode cX10_lowest 11 = .ok (.if_icmp .gt 27, 3) := by decide +kernel
theorem dX10_lowest_14 : decode cX10_lowest 14 = .ok (.iload 4, 2) := by decide +kernel
theorem dX10_lowest_16 : decode cX10_lowest 16 = .ok (.ifCond .eq 22, 3) := by decide +kernel
theorem dX10_lowest_19 : decode cX10_lowest 19 = .ok (.iload_n 3, 1) := by decide +kernel
theorem dX10_lowest_20 : decode cX10_lowest 20 = .ok (.iload 4, 2) := by decide +kernel
theorem dX10_lowest_22 : decode cX10_lowest 22 = .ok (.irem, 1) := by decide +kernel
theorem dX10_lowest_23 : decode cX10_lowest 23 = .ok (.istore 6, 2) := by decide +kernel
theorem dX10_lowest_25 : decode cX10_lowest 25 = .ok (.iload 4, 2) := by decide +kernel
theorem dX10_lowest_27 : decode cX10_lowest 27 = .ok (.istore_n 3, 1) := by decide +kernel
theorem dX10_lowest_28 : decode cX10_lowest 28 = .ok (.iload 6, 2) := by decide +kernel
theorem dX10_lowest_30 : decode cX10_lowest 30 = .ok (.istore 4, 2) := by decide +kernel
theorem dX10_lowest_32 : decode cX10_lowest 32 = .ok (.iinc 5 1, 3) := by decide +kernel
theorem dX10_lowest_35 : decode cX10_lowest 35 = .ok (.goto (-27), 3) := by decide +kernel
theorem dX10_lowest_38 : decode cX10_lowest 38 = .ok (.iload_n 3, 1) := by decide +kernel
theorem dX10_lowest_39 : decode cX10_lowest 39 = .ok (.ifCond .ne 7, 3) := by decide +kernel
theorem dX10_lowest_42 : decode cX10_lowest 42 = .ok (.ldc2_w 241, 3) := by decide +kernel
theorem dX10_lowest_45 : decode cX10_lowest 45 = .ok (.lreturn, 1) := by decide +kernel
theorem dX10_lowest_46 : decode cX10_lowest 46 = .ok (.iload_n 2, 1) := by decide +kernel
theorem dX10_lowest_47 : decode cX10_lowest 47 = .ok (.ifCond .ne 10, 3) := by decide +kernel
theorem dX10_lowest_50 : decode cX10_lowest 50 = .ok (.iload_n 0, 1) := by decide +kernel
theorem dX10_lowest_51 : decode cX10_lowest 51 = .ok (.iload_n 3, 1) := by decide +kernel
theorem dX10_lowest_52 : decode cX10_lowest 52 = .ok (.idiv, 1) := by decide +kernel
theorem dX10_lowest_53 : decode cX10_lowest 53 = .ok (.i2l, 1) := by decide +kernel
theorem dX10_lowest_54 : decode cX10_lowest 54 = .ok (.goto 7, 3) := by decide +kernel
theorem dX10_lowest_57 : decode cX10_lowest 57 = .ok (.iload_n 1, 1) := by decide +kernel
theorem dX10_lowest_58 : decode cX10_lowest 58 = .ok (.iload_n 3, 1) := by decide +kernel
theorem dX10_lowest_59 : decode cX10_lowest 59 = .ok (.idiv, 1) := by decide +kernel
theorem dX10_lowest_60 : decode cX10_lowest 60 = .ok (.i2l, 1) := by decide +kernel
theorem dX10_lowest_61 : decode cX10_lowest 61 = .ok (.lreturn, 1) := by decide +kernel
end
section
theorem dJ11_isValidCodePoint_9a6ad_0 : decode cJ11_isValidCodePoint_9a6ad 0 = .ok (.iload_n 0, 1) := by decide +kernel
theorem dJ11_isValidCodePoint_9a6ad_1 : decode cJ11_isValidCodePoint_9a6ad 1 = .ok (.bipush 16, 2) := by decide +kernel
theorem dJ11_isValidCodePoint_9a6ad_3 : decode cJ11_isValidCodePoint_9a6ad 3 = .ok (.iushr, 1) := by decide +kernel
theorem dJ11_isValidCodePoint_9a6ad_4 : decode cJ11_isValidCodePoint_9a6ad 4 = .ok (.istore_n 1, 1) := by decide +kernel
theorem dJ11_isValidCodePoint_9a6ad_5 : decode cJ11_isValidCodePoint_9a6ad 5 = .ok (.iload_n 1, 1) := by decide +kernel
theorem dJ11_isValidCodePoint_9a6ad_6 : decode cJ11_isValidCodePoint_9a6ad 6 = .ok (.bipush 17, 2) := by decide +kernel
theorem dJ11_isValidCodePoint_9a6ad_8 : decode cJ11_isValidCodePoint_9a6ad 8 = .ok (.if_icmp .ge 7, 3) := by decide +kernel
theorem dJ11_isValidCodePoint_9a6ad_11 : decode cJ11_isValidCodePoint_9a6ad 11 = .ok (.iconst 1, 1) := by decide +kernel
theorem dJ11_isValidCodePoint_9a6ad_12 : decode cJ11_isValidCodePoint_9a6ad 12 = .ok (.goto 4, 3) := by decide +kernel
theorem dJ11_isValidCodePoint_9a6ad_15 : decode cJ11_isValidCodePoint_9a6ad 15 = .ok (.iconst 0, 1) := by decide +kernel
theorem dJ11_isValidCodePoint_9a6ad_16 : decode cJ11_isValidCodePoint_9a6ad 16 = .ok (.ireturn, 1) := by decide +kernel
theorem dJ11_highSurrogate_5068e_0 : decode cJ11_highSurrogate_5068e 0 = .ok (.iload_n 0, 1) := by decide +kernel
theorem dJ11_highSurrogate_5068e_1 : decode cJ11_highSurrogate_5068e 1 = .ok (.bipush 10, 2) := by decide +kernel
theorem dJ11_highSurrogate_5068e_3 : decode cJ11_highSurrogate_5068e 3 = .ok (.iushr, 1) := by decide +kernel
theorem dJ11_highSurrogate_5068e_4 : decode cJ11_highSurrogate_5068e 4 = .ok (.ldc 110, 2) := by decide +kernel
theorem dJ11_highSurrogate_5068e_6 : decode cJ11_highSurrogate_5068e 6 = .ok (.iadd, 1) := by decide +kernel
theorem dJ11_highSurrogate_5068e_7 : decode cJ11_highSurrogate_5068e 7 = .ok (.i2c, 1) := by decide +kernel
theorem dJ11_highSurrogate_5068e_8 : decode cJ11_highSurrogate_5068e 8 = .ok (.ireturn, 1) := by decide +kernel
theorem dJ11_lowSurrogate_5068e_0 : decode cJ11_lowSurrogate_5068e 0 = .ok (.iload_n 0, 1) := by decide +kernel
theorem dJ11_lowSurrogate_5068e_1 : decode cJ11_lowSurrogate_5068e 1 = .ok (.sipush 1023, 3) := by decide +kernel
theorem dJ11_lowSurrogate_5068e_4 : decode cJ11_lowSurrogate_5068e 4 = .ok (.iand, 1) := by decide +kernel
theorem dJ11_lowSurrogate_5068e_5 : decode cJ11_lowSurrogate_5068e 5 = .ok (.ldc 76, 2) := by decide +kernel
theorem dJ11_lowSurrogate_5068e_7 : decode cJ11_lowSurrogate_5068e 7 = .ok (.iadd, 1) := by decide +kernel
theorem dJ11_lowSurrogate_5068e_8 : decode cJ11_lowSurrogate_5068e 8 = .ok (.i2c, 1) := by decide +kernel
theorem dJ11_lowSurrogate_5068e_9 : decode cJ11_lowSurrogate_5068e 9 = .ok (.ireturn, 1) := by decide +kernel
theorem dJ6_bitCount_0f7a4_0 : decode cJ6_bitCount_0f7a4 0 = .ok (.iload_n 0, 1) := by decide +kernel
theorem dJ6_bitCount_0f7a4_1 : decode cJ6_bitCount_0f7a4 1 = .ok (.iload_n 0, 1) := by decide +kernel
theorem dJ6_bitCount_0f7a4_2 : decode cJ6_bitCount_0f7a4 2 = .ok (.iconst 1, 1) := by decide +kernel
theorem dJ6_bitCount_0f7a4_3 : decode cJ6_bitCount_0f7a4 3 = .ok (.iushr, 1) := by decide +kernel
theorem dJ6_bitCount_0f7a4_4 : decode cJ6_bitCount_0f7a4 4 = .ok (.ldc_w 265, 3) := by decide +kernel
theorem dJ6_bitCount_0f7a4_7 : decode cJ6_bitCount_0f7a4 7 = .ok (.iand, 1) := by decide +kernel
theorem dJ6_bitCount_0f7a4_8 : decode cJ6_bitCount_0f7a4 8 = .ok (.isub, 1) := by decide +kernel
theorem dJ6_bitCount_0f7a4_9 : decode cJ6_bitCount_0f7a4 9 = .ok (.istore_n 0, 1) := by decide +kernel
theorem dJ6_bitCount_0f7a4_10 : decode cJ6_bitCount_0f7a4 10 = .ok (.iload_n 0, 1) := by decide +kernel
theorem dJ6_bitCount_0f7a4_11 : decode cJ6_bitCount_0f7a4 11 = .ok (.ldc_w 266, 3) := by decide +kernel
theorem dJ6_bitCount_0f7a4_14 : decode cJ6_bitCount_0f7a4 14 = .ok (.iand, 1) := by decide +kernel
theorem dJ6_bitCount_0f7a4_15 : decode cJ6_bitCount_0f7a4 15 = .ok (.iload_n 0, 1) := by decide +kernel
theorem dJ6_bitCount_0f7a4_16 : decode cJ6_bitCount_0f7a4 16 = .ok (.iconst 2, 1) := by decide +kernel
theorem dJ6_bitCount_0f7a4_17 : decode cJ6_bitCount_0f7a4 17 = .ok (.iushr, 1) := by decide +kernel
theorem dJ6_bitCount_0f7a4_18 : decode cJ6_bitCount_0f7a4 18 = .ok (.ldc_w 266, 3) := by decide +kernel
theorem dJ6_bitCount_0f7a4_21 : decode cJ6_bitCount_0f7a4 21 = .ok (.iand, 1) := by decide +kernel
theorem dJ6_bitCount_0f7a4_22 : decode cJ6_bitCount_0f7a4 22 = .ok (.iadd, 1) := by decide +kernel
theorem dJ6_bitCount_0f7a4_23 : decode cJ6_bitCount_0f7a4 23 = .ok (.istore_n 0, 1) := by decide +kernel
theorem dJ6_bitCount_0f7a4_24 : decode cJ6_bitCount_0f7a4 24 = .ok (.iload_n 0, 1) := by decide +kernel
theorem dJ6_bitCount_0f7a4_25 : decode cJ6_bitCount_0f7a4 25 = .ok (.iload_n 0, 1) := by decide +kernel
theorem dJ6_bitCount_0f7a4_26 : decode cJ6_bitCount_0f7a4 26 = .ok (.iconst 4, 1) := by decide +kernel
theorem dJ6_bitCount_0f7a4_27 : decode cJ6_bitCount_0f7a4 27 = .ok (.iushr, 1) := by decide +kernel
theorem dJ6_bitCount_0f7a4_28 : decode cJ6_bitCount_0f7a4 28 = .ok (.iadd, 1) := by decide +kernel
theorem dJ6_bitCount_0f7a4_29 : decode cJ6_bitCount_0f7a4 29 = .ok (.ldc_w 267, 3) := by decide +kernel
theorem dJ6_bitCount_0f7a4_32 : decode cJ6_bitCount_0f7a4 32 = .ok (.iand, 1) := by decide +kernel
theorem dJ6_bitCount_0f7a4_33 : decode cJ6_bitCount_0f7a4 33 = .ok (.istore_n 0, 1) := by decide +kernel
theorem dJ6_bitCount_0f7a4_34 : decode cJ6_bitCount_0f7a4 34 = .ok (.iload_n 0, 1) := by decide +kernel
theorem dJ6_bitCount_0f7a4_35 : decode cJ6_bitCount_0f7a4 35 = .ok (.iload_n 0, 1) := by decide +kernel
theorem dJ6_bitCount_0f7a4_36 : decode cJ6_bitCount_0f7a4 36 = .ok (.bipush 8, 2) := by decide +kernel
theorem dJ6_bitCount_0f7a4_38 : decode cJ6_bitCount_0f7a4 38 = .ok (.iushr, 1) := by decide +kernel
theorem dJ6_bitCount_0f7a4_39 : decode cJ6_bitCount_0f7a4 39 = .ok (.iadd, 1) := by decide +kernel
theorem dJ6_bitCount_0f7a4_40 : decode cJ6_bitCount_0f7a4 40 = .ok (.istore_n 0, 1) := by decide +kernel
theorem dJ6_bitCount_0f7a4_41 : decode cJ6_bitCount_0f7a4 41 = .ok (.iload_n 0, 1) := by decide +kernel
theorem dJ6_bitCount_0f7a4_42 : decode cJ6_bitCount_0f7a4 42 = .ok (.iload_n 0, 1) := by decide +kernel
theorem dJ6_bitCount_0f7a4_43 : decode cJ6_bitCount_0f7a4 43 = .ok (.bipush 16, 2) := by decide +kernel
theorem dJ6_bitCount_0f7a4_45 : decode cJ6_bitCount_0f7a4 45 = .ok (.iushr, 1) := by decide +kernel
theorem dJ6_bitCount_0f7a4_46 : decode cJ6_bitCount_0f7a4 46 = .ok (.iadd, 1) := by decide +kernel
theorem dJ6_bitCount_0f7a4_47 : decode cJ6_bitCount_0f7a4 47 = .ok (.istore_n 0, 1) := by decide +kernel
theorem dJ6_bitCount_0f7a4_48 : decode cJ6_bitCount_0f7a4 48 = .ok (.iload_n 0, 1) := by decide +kernel
theorem dJ6_bitCount_0f7a4_49 : decode cJ6_bitCount_0f7a4 49 = .ok (.bipush 63, 2) := by decide +kernel
theorem dJ6_bitCount_0f7a4_51 : decode cJ6_bitCount_0f7a4 51 = .ok (.iand, 1) := by decide +kernel
theorem dJ6_bitCount_0f7a4_52 : decode cJ6_bitCount_0f7a4 52 = .ok (.ireturn, 1) := by decide +kernel
theorem dJ9_max_7cf53_0 : decode cJ9_max_7cf53 0 = .ok (.iload_n 0, 1) := by decide +kernel
theorem dJ9_max_7cf53_1 : decode cJ9_max_7cf53 1 = .ok (.iload_n 1, 1) := by decide +kernel
theorem dJ9_max_7cf53_2 : decode cJ9_max_7cf53 2 = .ok (.if_icmp .lt 7, 3) := by decide +kernel
theorem dJ9_max_7cf53_5 : decode cJ9_max_7cf53 5 = .ok (.iload_n 0, 1) := by decide +kernel
theorem dJ9_max_7cf53_6 : decode cJ9_max_7cf53 6 = .ok (.goto 4, 3) := by decide +kernel
theorem dJ9_max_7cf53_9 : decode cJ9_max_7cf53 9 = .ok (.iload_n 1, 1) := by decide +kernel
theorem dJ9_max_7cf53_10 : decode cJ9_max_7cf53 10 = .ok (.ireturn, 1) := by decide +kernel
theorem dJ9_min_7cf53_0 : decode cJ9_min_7cf53 0 = .ok (.iload_n 0, 1) := by decide +kernel
theorem dJ9_min_7cf53_1 : decode cJ9_min_7cf53 1 = .ok (.iload_n 1, 1) := by decide +kernel
theorem dJ9_min_7cf53_2 : decode cJ9_min_7cf53 2 = .ok (.if_icmp .gt 7, 3) := by decide +kernel
theorem dJ9_min_7cf53_5 : decode cJ9_min_7cf53 5 = .ok (.iload_n 0, 1) := by decide +kernel
theorem dJ9_min_7cf53_6 : decode cJ9_min_7cf53 6 = .ok (.goto 4, 3) := by decide +kernel
theorem dJ9_min_7cf53_9 : decode cJ9_min_7cf53 9 = .ok (.iload_n 1, 1) := by decide +kernel
theorem dJ9_min_7cf53_10 : decode cJ9_min_7cf53 10 = .ok (.ireturn, 1) := by decide +kernel
theorem dJ0_length_8abf5_0 : decode cJ0_length_8abf5 0 = .ok (.aload_n 0, 1) := by decide +kernel
theorem dJ0_length_8abf5_1 : decode cJ0_length_8abf5 1 = .ok (.getfield 9, 3) := by decide +kernel
theorem dJ0_length_8abf5_4 : decode cJ0_length_8abf5 4 = .ok (.arraylength, 1) := by decide +kernel
theorem dJ0_length_8abf5_5 : decode cJ0_length_8abf5 5 = .ok (.aload_n 0, 1) := by decide +kernel
theorem dJ0_length_8abf5_6 : decode cJ0_length_8abf5 6 = .ok (.invokevirtual 335, 3) := by decide +kernel
theorem dJ0_length_8abf5_9 : decode cJ0_length_8abf5 9 = .ok (.ishr, 1) := by decide +kernel
theorem dJ0_length_8abf5_10 : decode cJ0_length_8abf5 10 = .ok (.ireturn, 1) := by decide +kernel
theorem dJ0_charAt_5068e_0 : decode cJ0_charAt_5068e 0 = .ok (.aload_n 0, 1) := by decide +kernel
theorem dJ0_charAt_5068e_1 : decode cJ0_charAt_5068e 1 = .ok (.invokevirtual 492, 3) := by decide +kernel
theorem dJ0_charAt_5068e_4 : decode cJ0_charAt_5068e 4 = .ok (.ifCond .eq 12, 3) := by decide +kernel
theorem dJ0_charAt_5068e_7 : decode cJ0_charAt_5068e 7 = .ok (.aload_n 0, 1) := by decide +kernel
theorem dJ0_charAt_5068e_8 : decode cJ0_charAt_5068e 8 = .ok (.getfield 9, 3) := by decide +kernel
theorem dJ0_charAt_5068e_11 : decode cJ0_charAt_5068e 11 = .ok (.iload_n 1, 1) := by decide +kernel
theorem dJ0_charAt_5068e_12 : decode cJ0_charAt_5068e 12 = .ok (.invokestatic 495, 3) := by decide +kernel
theorem dJ0_charAt_5068e_15 : decode cJ0_charAt_5068e 15 = .ok (.ireturn, 1) := by decide +kernel
theorem dJ0_charAt_5068e_16 : decode cJ0_charAt_5068e 16 = .ok (.aload_n 0, 1) := by decide +kernel
theorem dJ0_charAt_5068e_17 : decode cJ0_charAt_5068e 17 = .ok (.getfield 9, 3) := by decide +kernel
theorem dJ0_charAt_5068e_20 : decode cJ0_charAt_5068e 20 = .ok (.iload_n 1, 1) := by decide +kernel
theorem dJ0_charAt_5068e_21 : decode cJ0_charAt_5068e 21 = .ok (.invokestatic 498, 3) := by decide +kernel
theorem dJ0_charAt_5068e_24 : decode cJ0_charAt_5068e 24 = .ok (.ireturn, 1) := by decide +kernel
theorem dJ0_indexOf_0f7a4_0 : decode cJ0_indexOf_0f7a4 0 = .ok (.aload_n 0, 1) := by decide +kernel
theorem dJ0_indexOf_0f7a4_1 : decode cJ0_indexOf_0f7a4 1 = .ok (.iload_n 1, 1) := by decide +kernel
theorem dJ0_indexOf_0f7a4_2 : decode cJ0_indexOf_0f7a4 2 = .ok (.iconst 0, 1) := by decide +kernel
theorem dJ0_indexOf_0f7a4_3 : decode cJ0_indexOf_0f7a4 3 = .ok (.invokevirtual 633, 3) := by decide +kernel
theorem dJ0_indexOf_0f7a4_6 : decode cJ0_indexOf_0f7a4 6 = .ok (.ireturn, 1) := by decide +kernel
theorem dJ0_indexOf_7cf53_0 : decode cJ0_indexOf_7cf53 0 = .ok (.aload_n 0, 1) := by decide +kernel
theorem dJ0_indexOf_7cf53_1 : decode cJ0_indexOf_7cf53 1 = .ok (.invokevirtual 492, 3) := by decide +kernel
theorem dJ0_indexOf_7cf53_4 : decode cJ0_indexOf_7cf53 4 = .ok (.ifCond .eq 19, 3) := by decide +kernel
theorem dJ0_indexOf_7cf53_7 : decode cJ0_indexOf_7cf53 7 = .ok (.aload_n 0, 1) := by decide +kernel
theorem dJ0_indexOf_7cf53_8 : decode cJ0_indexOf_7cf53 8 = .ok (.getfield 9, 3) := by decide +kernel
theorem dJ0_indexOf_7cf53_11 : decode cJ0_indexOf_7cf53 11 = .ok (.iload_n 1, 1) := by decide +kernel
theorem dJ0_indexOf_7cf53_12 : decode cJ0_indexOf_7cf53 12 = .ok (.iload_n 2, 1) := by decide +kernel
theorem dJ0_indexOf_7cf53_13 : decode cJ0_indexOf_7cf53 13 = .ok (.aload_n 0, 1) := by decide +kernel
theorem dJ0_indexOf_7cf53_14 : decode cJ0_indexOf_7cf53 14 = .ok (.invokevirtual 505, 3) := by decide +kernel
theorem dJ0_indexOf_7cf53_17 : decode cJ0_indexOf_7cf53 17 = .ok (.invokestatic 637, 3) := by decide +kernel
theorem dJ0_indexOf_7cf53_20 : decode cJ0_indexOf_7cf53 20 = .ok (.goto 16, 3) := by decide +kernel
theorem dJ0_indexOf_7cf53_23 : decode cJ0_indexOf_7cf53 23 = .ok (.aload_n 0, 1) := by decide +kernel
theorem dJ0_indexOf_7cf53_24 : decode cJ0_indexOf_7cf53 24 = .ok (.getfield 9, 3) := by decide +kernel
theorem dJ0_indexOf_7cf53_27 : decode cJ0_indexOf_7cf53 27 = .ok (.iload_n 1, 1) := by decide +kernel
theorem dJ0_indexOf_7cf53_28 : decode cJ0_indexOf_7cf53 28 = .ok (.iload_n 2, 1) := by decide +kernel
theorem dJ0_indexOf_7cf53_29 : decode cJ0_indexOf_7cf53 29 = .ok (.aload_n 0, 1) := by decide +kernel
theorem dJ0_indexOf_7cf53_30 : decode cJ0_indexOf_7cf53 30 = .ok (.invokevirtual 505, 3) := by decide +kernel
theorem dJ0_indexOf_7cf53_33 : decode cJ0_indexOf_7cf53 33 = .ok (.invokestatic 640, 3) := by decide +kernel
theorem dJ0_indexOf_7cf53_36 : decode cJ0_indexOf_7cf53 36 = .ok (.ireturn, 1) := by decide +kernel
theorem dJ0_coder_7d493_0 : decode cJ0_coder_7d493 0 = .ok (.getstatic 38, 3) := by decide +kernel
theorem dJ0_coder_7d493_3 : decode cJ0_coder_7d493 3 = .ok (.ifCond .eq 10, 3) := by decide +kernel
theorem dJ0_coder_7d493_6 : decode cJ0_coder_7d493 6 = .ok (.aload_n 0, 1) := by decide +kernel
theorem dJ0_coder_7d493_7 : decode cJ0_coder_7d493 7 = .ok (.getfield 15, 3) := by decide +kernel
theorem dJ0_coder_7d493_10 : decode cJ0_coder_7d493 10 = .ok (.goto 4, 3) := by decide +kernel
theorem dJ0_coder_7d493_13 : decode cJ0_coder_7d493 13 = .ok (.iconst 1, 1) := by decide +kernel
theorem dJ0_coder_7d493_14 : decode cJ0_coder_7d493 14 = .ok (.ireturn, 1) := by decide +kernel
theorem dJ0_isLatin1_aae02_0 : decode cJ0_isLatin1_aae02 0 = .ok (.getstatic 38, 3) := by decide +kernel
theorem dJ0_isLatin1_aae02_3 : decode cJ0_isLatin1_aae02 3 = .ok (.ifCond .eq 14, 3) := by decide +kernel
theorem dJ0_isLatin1_aae02_6 : decode cJ0_isLatin1_aae02 6 = .ok (.aload_n 0, 1) := by decide +kernel
theorem dJ0_isLatin1_aae02_7 : decode cJ0_isLatin1_aae02 7 = .ok (.getfield 15, 3) := by decide +kernel
theorem dJ0_isLatin1_aae02_10 : decode cJ0_isLatin1_aae02 10 = .ok (.ifCond .ne 7, 3) := by decide +kernel
theorem dJ0_isLatin1_aae02_13 : decode cJ0_isLatin1_aae02 13 = .ok (.iconst 1, 1) := by decide +kernel
theorem dJ0_isLatin1_aae02_14 : decode cJ0_isLatin1_aae02 14 = .ok (.goto 4, 3) := by decide +kernel
theorem dJ0_isLatin1_aae02_17 : decode cJ0_isLatin1_aae02 17 = .ok (.iconst 0, 1) := by decide +kernel
theorem dJ0_isLatin1_aae02_18 : decode cJ0_isLatin1_aae02 18 = .ok (.ireturn, 1) := by decide +kernel
theorem dJ0_checkIndex_df160_0 : decode cJ0_checkIndex_df160 0 = .ok (.iload_n 0, 1) := by decide +kernel
theorem dJ0_checkIndex_df160_1 : decode cJ0_checkIndex_df160 1 = .ok (.iload_n 1, 1) := by decide +kernel
theorem dJ0_checkIndex_df160_2 : decode cJ0_checkIndex_df160 2 = .ok (.getstatic 1053, 3) := by decide +kernel
theorem dJ0_checkIndex_df160_5 : decode cJ0_checkIndex_df160 5 = .ok (.invokestatic 1059, 3) := by decide +kernel
theorem dJ0_checkIndex_df160_8 : decode cJ0_checkIndex_df160 8 = .ok (.pop, 1) := by decide +kernel
theorem dJ0_checkIndex_df160_9 : decode cJ0_checkIndex_df160 9 = .ok (.return_, 1) := by decide +kernel
theorem dJ0_checkBoundsBeginEnd_23922_0 : decode cJ0_checkBoundsBeginEnd_23922 0 = .ok (.iload_n 0, 1) := by decide +kernel
theorem dJ0_checkBoundsBeginEnd_23922_1 : decode cJ0_checkBoundsBeginEnd_23922 1 = .ok (.iload_n 1, 1) := by decide +kernel
theorem dJ0_checkBoundsBeginEnd_23922_2 : decode cJ0_checkBoundsBeginEnd_23922 2 = .ok (.iload_n 2, 1) := by decide +kernel
theorem dJ0_checkBoundsBeginEnd_23922_3 : decode cJ0_checkBoundsBeginEnd_23922 3 = .ok (.getstatic 1053, 3) := by decide +kernel
theorem dJ0_checkBoundsBeginEnd_23922_6 : decode cJ0_checkBoundsBeginEnd_23922 6 = .ok (.invokestatic 1062, 3) := by decide +kernel
theorem dJ0_checkBoundsBeginEnd_23922_9 : decode cJ0_checkBoundsBeginEnd_23922 9 = .ok (.pop, 1) := by decide +kernel
theorem dJ0_checkBoundsBeginEnd_23922_10 : decode cJ0_checkBoundsBeginEnd_23922 10 = .ok (.return_, 1) := by decide +kernel
theorem dJ1_charAt_3b067_0 : decode cJ1_charAt_3b067 0 = .ok (.iload_n 1, 1) := by decide +kernel
theorem dJ1_charAt_3b067_1 : decode cJ1_charAt_3b067 1 = .ok (.aload_n 0, 1) := by decide +kernel
theorem dJ1_charAt_3b067_2 : decode cJ1_charAt_3b067 2 = .ok (.arraylength, 1) := by decide +kernel
theorem dJ1_charAt_3b067_3 : decode cJ1_charAt_3b067 3 = .ok (.invokestatic 9, 3) := by decide +kernel
theorem dJ1_charAt_3b067_6 : decode cJ1_charAt_3b067 6 = .ok (.aload_n 0, 1) := by decide +kernel
theorem dJ1_charAt_3b067_7 : decode cJ1_charAt_3b067 7 = .ok (.iload_n 1, 1) := by decide +kernel
theorem dJ1_charAt_3b067_8 : decode cJ1_charAt_3b067 8 = .ok (.baload, 1) := by decide +kernel
theorem dJ1_charAt_3b067_9 : decode cJ1_charAt_3b067 9 = .ok (.sipush 255, 3) := by decide +kernel
theorem dJ1_charAt_3b067_12 : decode cJ1_charAt_3b067 12 = .ok (.iand, 1) := by decide +kernel
theorem dJ1_charAt_3b067_13 : decode cJ1_charAt_3b067 13 = .ok (.i2c, 1) := by decide +kernel
theorem dJ1_charAt_3b067_14 : decode cJ1_charAt_3b067 14 = .ok (.ireturn, 1) := by decide +kernel
theorem dJ1_canEncode_9a6ad_0 : decode cJ1_canEncode_9a6ad 0 = .ok (.iload_n 0, 1) := by decide +kernel
theorem dJ1_canEncode_9a6ad_1 : decode cJ1_canEncode_9a6ad 1 = .ok (.ifCond .lt 14, 3) := by decide +kernel
theorem dJ1_canEncode_9a6ad_4 : decode cJ1_canEncode_9a6ad 4 = .ok (.iload_n 0, 1) := by decide +kernel
theorem dJ1_canEncode_9a6ad_5 : decode cJ1_canEncode_9a6ad 5 = .ok (.sipush 255, 3) := by decide +kernel
theorem dJ1_canEncode_9a6ad_8 : decode cJ1_canEncode_9a6ad 8 = .ok (.if_icmp .gt 7, 3) := by decide +kernel
theorem dJ1_canEncode_9a6ad_11 : decode cJ1_canEncode_9a6ad 11 = .ok (.iconst 1, 1) := by decide +kernel
theorem dJ1_canEncode_9a6ad_12 : decode cJ1_canEncode_9a6ad 12 = .ok (.goto 4, 3) := by decide +kernel
theorem dJ1_canEncode_9a6ad_15 : decode cJ1_canEncode_9a6ad 15 = .ok (.iconst 0, 1) := by decide +kernel
theorem dJ1_canEncode_9a6ad_16 : decode cJ1_canEncode_9a6ad 16 = .ok (.ireturn, 1) := by decide +kernel
theorem dJ1_indexOf_4cfef_0 : decode cJ1_indexOf_4cfef 0 = .ok (.iload_n 1, 1) := by decide +kernel
theorem dJ1_indexOf_4cfef_1 : decode cJ1_indexOf_4cfef 1 = .ok (.invokestatic 88, 3) := by decide +kernel
theorem dJ1_indexOf_4cfef_4 : decode cJ1_indexOf_4cfef 4 = .ok (.ifCond .ne 5, 3) := by decide +kernel
theorem dJ1_indexOf_4cfef_7 : decode cJ1_indexOf_4cfef 7 = .ok (.iconst (-1), 1) := by decide +kernel
theorem dJ1_indexOf_4cfef_8 : decode cJ1_indexOf_4cfef 8 = .ok (.ireturn, 1) := by decide +kernel
theorem dJ1_indexOf_4cfef_9 : decode cJ1_indexOf_4cfef 9 = .ok (.iload_n 2, 1) := by decide +kernel
theorem dJ1_indexOf_4cfef_10 : decode cJ1_indexOf_4cfef 10 = .ok (.iconst 0, 1) := by decide +kernel
theorem dJ1_indexOf_4cfef_11 : decode cJ1_indexOf_4cfef 11 = .ok (.invokestatic 92, 3) := by decide +kernel
theorem dJ1_indexOf_4cfef_14 : decode cJ1_indexOf_4cfef 14 = .ok (.istore_n 2, 1) := by decide +kernel
theorem dJ1_indexOf_4cfef_15 : decode cJ1_indexOf_4cfef 15 = .ok (.iload_n 3, 1) := by decide +kernel
theorem dJ1_indexOf_4cfef_16 : decode cJ1_indexOf_4cfef 16 = .ok (.aload_n 0, 1) := by decide +kernel
theorem dJ1_indexOf_4cfef_17 : decode cJ1_indexOf_4cfef 17 = .ok (.arraylength, 1) := by decide +kernel
theorem dJ1_indexOf_4cfef_18 : decode cJ1_indexOf_4cfef 18 = .ok (.invokestatic 38, 3) := by decide +kernel
theorem dJ1_indexOf_4cfef_21 : decode cJ1_indexOf_4cfef 21 = .ok (.istore_n 3, 1) := by decide +kernel
theorem dJ1_indexOf_4cfef_22 : decode cJ1_indexOf_4cfef 22 = .ok (.iload_n 2, 1) := by decide +kernel
theorem dJ1_indexOf_4cfef_23 : decode cJ1_indexOf_4cfef 23 = .ok (.iload_n 3, 1) := by decide +kernel
theorem dJ1_indexOf_4cfef_24 : decode cJ1_indexOf_4cfef 24 = .ok (.if_icmp .lt 5, 3) := by decide +kernel
theorem dJ1_indexOf_4cfef_27 : decode cJ1_indexOf_4cfef 27 = .ok (.iconst (-1), 1) := by decide +kernel
theorem dJ1_indexOf_4cfef_28 : decode cJ1_indexOf_4cfef 28 = .ok (.ireturn, 1) := by decide +kernel
theorem dJ1_indexOf_4cfef_29 : decode cJ1_indexOf_4cfef 29 = .ok (.aload_n 0, 1) := by decide +kernel
theorem dJ1_indexOf_4cfef_30 : decode cJ1_indexOf_4cfef 30 = .ok (.iload_n 1, 1) := by decide +kernel
theorem dJ1_indexOf_4cfef_31 : decode cJ1_indexOf_4cfef 31 = .ok (.iload_n 2, 1) := by decide +kernel
theorem dJ1_indexOf_4cfef_32 : decode cJ1_indexOf_4cfef 32 = .ok (.iload_n 3, 1) := by decide +kernel
theorem dJ1_indexOf_4cfef_33 : decode cJ1_indexOf_4cfef 33 = .ok (.invokestatic 95, 3) := by decide +kernel
theorem dJ1_indexOf_4cfef_36 : decode cJ1_indexOf_4cfef 36 = .ok (.ireturn, 1) := by decide +kernel
theorem dJ1_indexOfChar_4cfef_0 : decode cJ1_indexOfChar_4cfef 0 = .ok (.iload_n 1, 1) := by decide +kernel
theorem dJ1_indexOfChar_4cfef_1 : decode cJ1_indexOfChar_4cfef 1 = .ok (.i2b, 1) := by decide +kernel
theorem dJ1_indexOfChar_4cfef_2 : decode cJ1_indexOfChar_4cfef 2 = .ok (.istore 4, 2) := by decide +kernel
theorem dJ1_indexOfChar_4cfef_4 : decode cJ1_indexOfChar_4cfef 4 = .ok (.iload_n 2, 1) := by decide +kernel
theorem dJ1_indexOfChar_4cfef_5 : decode cJ1_indexOfChar_4cfef 5 = .ok (.istore 5, 2) := by decide +kernel
theorem dJ1_indexOfChar_4cfef_7 : decode cJ1_indexOfChar_4cfef 7 = .ok (.iload 5, 2) := by decide +kernel
theorem dJ1_indexOfChar_4cfef_9 : decode cJ1_indexOfChar_4cfef 9 = .ok (.iload_n 3, 1) := by decide +kernel
theorem dJ1_indexOfChar_4cfef_10 : decode cJ1_indexOfChar_4cfef 10 = .ok (.if_icmp .ge 21, 3) := by decide +kernel
theorem dJ1_indexOfChar_4cfef_13 : decode cJ1_indexOfChar_4cfef 13 = .ok (.aload_n 0, 1) := by decide +kernel
theorem dJ1_indexOfChar_4cfef_14 : decode cJ1_indexOfChar_4cfef 14 = .ok (.iload 5, 2) := by decide +kernel
theorem dJ1_indexOfChar_4cfef_16 : decode cJ1_indexOfChar_4cfef 16 = .ok (.baload, 1) := by decide +kernel
theorem dJ1_indexOfChar_4cfef_17 : decode cJ1_indexOfChar_4cfef 17 = .ok (.iload 4, 2) := by decide +kernel
theorem dJ1_indexOfChar_4cfef_19 : decode cJ1_indexOfChar_4cfef 19 = .ok (.if_icmp .ne 6, 3) := by decide +kernel
theorem dJ1_indexOfChar_4cfef_22 : decode cJ1_indexOfChar_4cfef 22 = .ok (.iload 5, 2) := by decide +kernel
theorem dJ1_indexOfChar_4cfef_24 : decode cJ1_indexOfChar_4cfef 24 = .ok (.ireturn, 1) := by decide +kernel
theorem dJ1_indexOfChar_4cfef_25 : decode cJ1_indexOfChar_4cfef 25 = .ok (.iinc 5 1, 3) := by decide +kernel
theorem dJ1_indexOfChar_4cfef_28 : decode cJ1_indexOfChar_4cfef 28 = .ok (.goto (-21), 3) := by decide +kernel
theorem dJ1_indexOfChar_4cfef_31 : decode cJ1_indexOfChar_4cfef 31 = .ok (.iconst (-1), 1) := by decide +kernel
theorem dJ1_indexOfChar_4cfef_32 : decode cJ1_indexOfChar_4cfef 32 = .ok (.ireturn, 1) := by decide +kernel
theorem dJ2_getChar_3b067_0 : decode cJ2_getChar_3b067 0 = .ok (.getstatic 44, 3) := by decide +kernel
theorem dJ2_getChar_3b067_3 : decode cJ2_getChar_3b067 3 = .ok (.ifCond .ne 25, 3) := by decide +kernel
theorem dJ2_getChar_3b067_6 : decode cJ2_getChar_3b067 6 = .ok (.iload_n 1, 1) := by decide +kernel
theorem dJ2_getChar_3b067_7 : decode cJ2_getChar_3b067 7 = .ok (.ifCond .lt 11, 3) := by decide +kernel
theorem dJ2_getChar_3b067_10 : decode cJ2_getChar_3b067 10 = .ok (.iload_n 1, 1) := by decide +kernel
theorem dJ2_getChar_3b067_11 : decode cJ2_getChar_3b067 11 = .ok (.aload_n 0, 1) := by decide +kernel
theorem dJ2_getChar_3b067_12 : decode cJ2_getChar_3b067 12 = .ok (.invokestatic 48, 3) := by decide +kernel
theorem dJ2_getChar_3b067_15 : decode cJ2_getChar_3b067 15 = .ok (.if_icmp .lt 13, 3) := by decide +kernel
theorem dJ2_getChar_3b067_18 : decode cJ2_getChar_3b067 18 = .ok (.new 52, 3) := by decide +kernel
theorem dJ2_getChar_3b067_21 : decode cJ2_getChar_3b067 21 = .ok (.dup, 1) := by decide +kernel
theorem dJ2_getChar_3b067_22 : decode cJ2_getChar_3b067 22 = .ok (.ldc 54, 2) := by decide +kernel
theorem dJ2_getChar_3b067_24 : decode cJ2_getChar_3b067 24 = .ok (.invokespecial 56, 3) := by decide +kernel
theorem dJ2_getChar_3b067_27 : decode cJ2_getChar_3b067 27 = .ok (.athrow, 1) := by decide +kernel
theorem dJ2_getChar_3b067_28 : decode cJ2_getChar_3b067 28 = .ok (.iload_n 1, 1) := by decide +kernel
theorem dJ2_getChar_3b067_29 : decode cJ2_getChar_3b067 29 = .ok (.iconst 1, 1) := by decide +kernel
theorem dJ2_getChar_3b067_30 : decode cJ2_getChar_3b067 30 = .ok (.ishl, 1) := by decide +kernel
theorem dJ2_getChar_3b067_31 : decode cJ2_getChar_3b067 31 = .ok (.istore_n 1, 1) := by decide +kernel
theorem dJ2_getChar_3b067_32 : decode cJ2_getChar_3b067 32 = .ok (.aload_n 0, 1) := by decide +kernel
theorem dJ2_getChar_3b067_33 : decode cJ2_getChar_3b067 33 = .ok (.iload_n 1, 1) := by decide +kernel
theorem dJ2_getChar_3b067_34 : decode cJ2_getChar_3b067 34 = .ok (.iinc 1 1, 3) := by decide +kernel
theorem dJ2_getChar_3b067_37 : decode cJ2_getChar_3b067 37 = .ok (.baload, 1) := by decide +kernel
theorem dJ2_getChar_3b067_38 : decode cJ2_getChar_3b067 38 = .ok (.sipush 255, 3) := by decide +kernel
theorem dJ2_getChar_3b067_41 : decode cJ2_getChar_3b067 41 = .ok (.iand, 1) := by decide +kernel
theorem dJ2_getChar_3b067_42 : decode cJ2_getChar_3b067 42 = .ok (.getstatic 59, 3) := by decide +kernel
theorem dJ2_getChar_3b067_45 : decode cJ2_getChar_3b067 45 = .ok (.ishl, 1) := by decide +kernel
theorem dJ2_getChar_3b067_46 : decode cJ2_getChar_3b067 46 = .ok (.aload_n 0, 1) := by decide +kernel
theorem dJ2_getChar_3b067_47 : decode cJ2_getChar_3b067 47 = .ok (.iload_n 1, 1) := by decide +kernel
theorem dJ2_getChar_3b067_48 : decode cJ2_getChar_3b067 48 = .ok (.baload, 1) := by decide +kernel
theorem dJ2_getChar_3b067_49 : decode cJ2_getChar_3b067 49 = .ok (.sipush 255, 3) := by decide +kernel
theorem dJ2_getChar_3b067_52 : decode cJ2_getChar_3b067 52 = .ok (.iand, 1) := by decide +kernel
theorem dJ2_getChar_3b067_53 : decode cJ2_getChar_3b067 53 = .ok (.getstatic 63, 3) := by decide +kernel
theorem dJ2_getChar_3b067_56 : decode cJ2_getChar_3b067 56 = .ok (.ishl, 1) := by decide +kernel
theorem dJ2_getChar_3b067_57 : decode cJ2_getChar_3b067 57 = .ok (.ior, 1) := by decide +kernel
theorem dJ2_getChar_3b067_58 : decode cJ2_getChar_3b067 58 = .ok (.i2c, 1) := by decide +kernel
theorem dJ2_getChar_3b067_59 : decode cJ2_getChar_3b067 59 = .ok (.ireturn, 1) := by decide +kernel
theorem dJ2_length_9d52b_0 : decode cJ2_length_9d52b 0 = .ok (.aload_n 0, 1) := by decide +kernel
theorem dJ2_length_9d52b_1 : decode cJ2_length_9d52b 1 = .ok (.arraylength, 1) := by decide +kernel
theorem dJ2_length_9d52b_2 : decode cJ2_length_9d52b 2 = .ok (.iconst 1, 1) := by decide +kernel
theorem dJ2_length_9d52b_3 : decode cJ2_length_9d52b 3 = .ok (.ishr, 1) := by decide +kernel
theorem dJ2_length_9d52b_4 : decode cJ2_length_9d52b 4 = .ok (.ireturn, 1) := by decide +kernel
theorem dJ2_indexOf_4cfef_0 : decode cJ2_indexOf_4cfef 0 = .ok (.iload_n 2, 1) := by decide +kernel
theorem dJ2_indexOf_4cfef_1 : decode cJ2_indexOf_4cfef 1 = .ok (.iconst 0, 1) := by decide +kernel
theorem dJ2_indexOf_4cfef_2 : decode cJ2_indexOf_4cfef 2 = .ok (.invokestatic 224, 3) := by decide +kernel
theorem dJ2_indexOf_4cfef_5 : decode cJ2_indexOf_4cfef 5 = .ok (.istore_n 2, 1) := by decide +kernel
theorem dJ2_indexOf_4cfef_6 : decode cJ2_indexOf_4cfef 6 = .ok (.iload_n 3, 1) := by decide +kernel
theorem dJ2_indexOf_4cfef_7 : decode cJ2_indexOf_4cfef 7 = .ok (.aload_n 0, 1) := by decide +kernel
theorem dJ2_indexOf_4cfef_8 : decode cJ2_indexOf_4cfef 8 = .ok (.arraylength, 1) := by decide +kernel
theorem dJ2_indexOf_4cfef_9 : decode cJ2_indexOf_4cfef 9 = .ok (.iconst 1, 1) := by decide +kernel
theorem dJ2_indexOf_4cfef_10 : decode cJ2_indexOf_4cfef 10 = .ok (.ishr, 1) := by decide +kernel
theorem dJ2_indexOf_4cfef_11 : decode cJ2_indexOf_4cfef 11 = .ok (.invokestatic 183, 3) := by decide +kernel
theorem dJ2_indexOf_4cfef_14 : decode cJ2_indexOf_4cfef 14 = .ok (.istore_n 3, 1) := by decide +kernel
theorem dJ2_indexOf_4cfef_15 : decode cJ2_indexOf_4cfef 15 = .ok (.iload_n 2, 1) := by decide +kernel
theorem dJ2_indexOf_4cfef_16 : decode cJ2_indexOf_4cfef 16 = .ok (.iload_n 3, 1) := by decide +kernel
theorem dJ2_indexOf_4cfef_17 : decode cJ2_indexOf_4cfef 17 = .ok (.if_icmp .lt 5, 3) := by decide +kernel
theorem dJ2_indexOf_4cfef_20 : decode cJ2_indexOf_4cfef 20 = .ok (.iconst (-1), 1) := by decide +kernel
theorem dJ2_indexOf_4cfef_21 : decode cJ2_indexOf_4cfef 21 = .ok (.ireturn, 1) := by decide +kernel
theorem dJ2_indexOf_4cfef_22 : decode cJ2_indexOf_4cfef 22 = .ok (.iload_n 1, 1) := by decide +kernel
theorem dJ2_indexOf_4cfef_23 : decode cJ2_indexOf_4cfef 23 = .ok (.ldc 227, 2) := by decide +kernel
theorem dJ2_indexOf_4cfef_25 : decode cJ2_indexOf_4cfef 25 = .ok (.if_icmp .ge 11, 3) := by decide +kernel
theorem dJ2_indexOf_4cfef_28 : decode cJ2_indexOf_4cfef 28 = .ok (.aload_n 0, 1) := by decide +kernel
theorem dJ2_indexOf_4cfef_29 : decode cJ2_indexOf_4cfef 29 = .ok (.iload_n 1, 1) := by decide +kernel
theorem dJ2_indexOf_4cfef_30 : decode cJ2_indexOf_4cfef 30 = .ok (.iload_n 2, 1) := by decide +kernel
theorem dJ2_indexOf_4cfef_31 : decode cJ2_indexOf_4cfef 31 = .ok (.iload_n 3, 1) := by decide +kernel
theorem dJ2_indexOf_4cfef_32 : decode cJ2_indexOf_4cfef 32 = .ok (.invokestatic 228, 3) := by decide +kernel
theorem dJ2_indexOf_4cfef_35 : decode cJ2_indexOf_4cfef 35 = .ok (.ireturn, 1) := by decide +kernel
theorem dJ2_indexOf_4cfef_36 : decode cJ2_indexOf_4cfef 36 = .ok (.aload_n 0, 1) := by decide +kernel
theorem dJ2_indexOf_4cfef_37 : decode cJ2_indexOf_4cfef 37 = .ok (.iload_n 1, 1) := by decide +kernel
theorem dJ2_indexOf_4cfef_38 : decode cJ2_indexOf_4cfef 38 = .ok (.iload_n 2, 1) := by decide +kernel
theorem dJ2_indexOf_4cfef_39 : decode cJ2_indexOf_4cfef 39 = .ok (.iload_n 3, 1) := by decide +kernel
theorem dJ2_indexOf_4cfef_40 : decode cJ2_indexOf_4cfef 40 = .ok (.invokestatic 232, 3) := by decide +kernel
theorem dJ2_indexOf_4cfef_43 : decode cJ2_indexOf_4cfef 43 = .ok (.ireturn, 1) := by decide +kernel
theorem dJ2_indexOfChar_4cfef_0 : decode cJ2_indexOfChar_4cfef 0 = .ok (.iload_n 2, 1) := by decide +kernel
theorem dJ2_indexOfChar_4cfef_1 : decode cJ2_indexOfChar_4cfef 1 = .ok (.iload_n 3, 1) := by decide +kernel
theorem dJ2_indexOfChar_4cfef_2 : decode cJ2_indexOfChar_4cfef 2 = .ok (.aload_n 0, 1) := by decide +kernel
theorem dJ2_indexOfChar_4cfef_3 : decode cJ2_indexOfChar_4cfef 3 = .ok (.invokestatic 96, 3) := by decide +kernel
theorem dJ2_indexOfChar_4cfef_6 : decode cJ2_indexOfChar_4cfef 6 = .ok (.aload_n 0, 1) := by decide +kernel
theorem dJ2_indexOfChar_4cfef_7 : decode cJ2_indexOfChar_4cfef 7 = .ok (.iload_n 1, 1) := by decide +kernel
theorem dJ2_indexOfChar_4cfef_8 : decode cJ2_indexOfChar_4cfef 8 = .ok (.iload_n 2, 1) := by decide +kernel
theorem dJ2_indexOfChar_4cfef_9 : decode cJ2_indexOfChar_4cfef 9 = .ok (.iload_n 3, 1) := by decide +kernel
theorem dJ2_indexOfChar_4cfef_10 : decode cJ2_indexOfChar_4cfef 10 = .ok (.invokestatic 244, 3) := by decide +kernel
theorem dJ2_indexOfChar_4cfef_13 : decode cJ2_indexOfChar_4cfef 13 = .ok (.ireturn, 1) := by decide +kernel
theorem dJ2_indexOfCharUnsafe_4cfef_0 : decode cJ2_indexOfCharUnsafe_4cfef 0 = .ok (.iload_n 2, 1) := by decide +kernel
theorem dJ2_indexOfCharUnsafe_4cfef_1 : decode cJ2_indexOfCharUnsafe_4cfef 1 = .ok (.istore 4, 2) := by decide +kernel
theorem dJ2_indexOfCharUnsafe_4cfef_3 : decode cJ2_indexOfCharUnsafe_4cfef 3 = .ok (.iload 4, 2) := by decide +kernel
theorem dJ2_indexOfCharUnsafe_4cfef_5 : decode cJ2_indexOfCharUnsafe_4cfef 5 = .ok (.iload_n 3, 1) := by decide +kernel
theorem dJ2_indexOfCharUnsafe_4cfef_6 : decode cJ2_indexOfCharUnsafe_4cfef 6 = .ok (.if_icmp .ge 22, 3) := by decide +kernel
theorem dJ2_indexOfCharUnsafe_4cfef_9 : decode cJ2_indexOfCharUnsafe_4cfef 9 = .ok (.aload_n 0, 1) := by decide +kernel
theorem dJ2_indexOfCharUnsafe_4cfef_10 : decode cJ2_indexOfCharUnsafe_4cfef 10 = .ok (.iload 4, 2) := by decide +kernel
theorem dJ2_indexOfCharUnsafe_4cfef_12 : decode cJ2_indexOfCharUnsafe_4cfef 12 = .ok (.invokestatic 71, 3) := by decide +kernel
theorem dJ2_indexOfCharUnsafe_4cfef_15 : decode cJ2_indexOfCharUnsafe_4cfef 15 = .ok (.iload_n 1, 1) := by decide +kernel
theorem dJ2_indexOfCharUnsafe_4cfef_16 : decode cJ2_indexOfCharUnsafe_4cfef 16 = .ok (.if_icmp .ne 6, 3) := by decide +kernel
theorem dJ2_indexOfCharUnsafe_4cfef_19 : decode cJ2_indexOfCharUnsafe_4cfef 19 = .ok (.iload 4, 2) := by decide +kernel
theorem dJ2_indexOfCharUnsafe_4cfef_21 : decode cJ2_indexOfCharUnsafe_4cfef 21 = .ok (.ireturn, 1) := by decide +kernel
theorem dJ2_indexOfCharUnsafe_4cfef_22 : decode cJ2_indexOfCharUnsafe_4cfef 22 = .ok (.iinc 4 1, 3) := by decide +kernel
theorem dJ2_indexOfCharUnsafe_4cfef_25 : decode cJ2_indexOfCharUnsafe_4cfef 25 = .ok (.goto (-22), 3) := by decide +kernel
theorem dJ2_indexOfCharUnsafe_4cfef_28 : decode cJ2_indexOfCharUnsafe_4cfef 28 = .ok (.iconst (-1), 1) := by decide +kernel
theorem dJ2_indexOfCharUnsafe_4cfef_29 : decode cJ2_indexOfCharUnsafe_4cfef 29 = .ok (.ireturn, 1) := by decide +kernel
theorem dJ2_indexOfSupplementary_4cfef_0 : decode cJ2_indexOfSupplementary_4cfef 0 = .ok (.iload_n 1, 1) := by decide +kernel
theorem dJ2_indexOfSupplementary_4cfef_1 : decode cJ2_indexOfSupplementary_4cfef 1 = .ok (.invokestatic 164, 3) := by decide +kernel
theorem dJ2_indexOfSupplementary_4cfef_4 : decode cJ2_indexOfSupplementary_4cfef 4 = .ok (.ifCond .eq 65, 3) := by decide +kernel
theorem dJ2_indexOfSupplementary_4cfef_7 : decode cJ2_indexOfSupplementary_4cfef 7 = .ok (.iload_n 1, 1) := by decide +kernel
theorem dJ2_indexOfSupplementary_4cfef_8 : decode cJ2_indexOfSupplementary_4cfef 8 = .ok (.invokestatic 157, 3) := by decide +kernel
theorem dJ2_indexOfSupplementary_4cfef_11 : decode cJ2_indexOfSupplementary_4cfef 11 = .ok (.istore 4, 2) := by decide +kernel
theorem dJ2_indexOfSupplementary_4cfef_13 : decode cJ2_indexOfSupplementary_4cfef 13 = .ok (.iload_n 1, 1) := by decide +kernel
theorem dJ2_indexOfSupplementary_4cfef_14 : decode cJ2_indexOfSupplementary_4cfef 14 = .ok (.invokestatic 161, 3) := by decide +kernel
theorem dJ2_indexOfSupplementary_4cfef_17 : decode cJ2_indexOfSupplementary_4cfef 17 = .ok (.istore 5, 2) := by decide +kernel
theorem dJ2_indexOfSupplementary_4cfef_19 : decode cJ2_indexOfSupplementary_4cfef 19 = .ok (.iload_n 2, 1) := by decide +kernel
theorem dJ2_indexOfSupplementary_4cfef_20 : decode cJ2_indexOfSupplementary_4cfef 20 = .ok (.iload_n 3, 1) := by decide +kernel
theorem dJ2_indexOfSupplementary_4cfef_21 : decode cJ2_indexOfSupplementary_4cfef 21 = .ok (.aload_n 0, 1) := by decide +kernel
theorem dJ2_indexOfSupplementary_4cfef_22 : decode cJ2_indexOfSupplementary_4cfef 22 = .ok (.invokestatic 96, 3) := by decide +kernel
theorem dJ2_indexOfSupplementary_4cfef_25 : decode cJ2_indexOfSupplementary_4cfef 25 = .ok (.iload_n 2, 1) := by decide +kernel
theorem dJ2_indexOfSupplementary_4cfef_26 : decode cJ2_indexOfSupplementary_4cfef 26 = .ok (.istore 6, 2) := by decide +kernel
theorem dJ2_indexOfSupplementary_4cfef_28 : decode cJ2_indexOfSupplementary_4cfef 28 = .ok (.iload 6, 2) := by decide +kernel
theorem dJ2_indexOfSupplementary_4cfef_30 : decode cJ2_indexOfSupplementary_4cfef 30 = .ok (.iload_n 3, 1) := by decide +kernel
theorem dJ2_indexOfSupplementary_4cfef_31 : decode cJ2_indexOfSupplementary_4cfef 31 = .ok (.iconst 1, 1) := by decide +kernel
theorem dJ2_indexOfSupplementary_4cfef_32 : decode cJ2_indexOfSupplementary_4cfef 32 = .ok (.isub, 1) := by decide +kernel
theorem dJ2_indexOfSupplementary_4cfef_33 : decode cJ2_indexOfSupplementary_4cfef 33 = .ok (.if_icmp .ge 36, 3) := by decide +kernel
theorem dJ2_indexOfSupplementary_4cfef_36 : decode cJ2_indexOfSupplementary_4cfef 36 = .ok (.aload_n 0, 1) := by decide +kernel
theorem dJ2_indexOfSupplementary_4cfef_37 : decode cJ2_indexOfSupplementary_4cfef 37 = .ok (.iload 6, 2) := by decide +kernel
theorem dJ2_indexOfSupplementary_4cfef_39 : decode cJ2_indexOfSupplementary_4cfef 39 = .ok (.invokestatic 71, 3) := by decide +kernel
theorem dJ2_indexOfSupplementary_4cfef_42 : decode cJ2_indexOfSupplementary_4cfef 42 = .ok (.iload 4, 2) := by decide +kernel
theorem dJ2_indexOfSupplementary_4cfef_44 : decode cJ2_indexOfSupplementary_4cfef 44 = .ok (.if_icmp .ne 19, 3) := by decide +kernel
theorem dJ2_indexOfSupplementary_4cfef_47 : decode cJ2_indexOfSupplementary_4cfef 47 = .ok (.aload_n 0, 1) := by decide +kernel
theorem dJ2_indexOfSupplementary_4cfef_48 : decode cJ2_indexOfSupplementary_4cfef 48 = .ok (.iload 6, 2) := by decide +kernel
theorem dJ2_indexOfSupplementary_4cfef_50 : decode cJ2_indexOfSupplementary_4cfef 50 = .ok (.iconst 1, 1) := by decide +kernel
theorem dJ2_indexOfSupplementary_4cfef_51 : decode cJ2_indexOfSupplementary_4cfef 51 = .ok (.iadd, 1) := by decide +kernel
theorem dJ2_indexOfSupplementary_4cfef_52 : decode cJ2_indexOfSupplementary_4cfef 52 = .ok (.invokestatic 71, 3) := by decide +kernel
theorem dJ2_indexOfSupplementary_4cfef_55 : decode cJ2_indexOfSupplementary_4cfef 55 = .ok (.iload 5, 2) := by decide +kernel
theorem dJ2_indexOfSupplementary_4cfef_57 : decode cJ2_indexOfSupplementary_4cfef 57 = .ok (.if_icmp .ne 6, 3) := by decide +kernel
theorem dJ2_indexOfSupplementary_4cfef_60 : decode cJ2_indexOfSupplementary_4cfef 60 = .ok (.iload 6, 2) := by decide +kernel
theorem dJ2_indexOfSupplementary_4cfef_62 : decode cJ2_indexOfSupplementary_4cfef 62 = .ok (.ireturn, 1) := by decide +kernel
theorem dJ2_indexOfSupplementary_4cfef_63 : decode cJ2_indexOfSupplementary_4cfef 63 = .ok (.iinc 6 1, 3) := by decide +kernel
theorem dJ2_indexOfSupplementary_4cfef_66 : decode cJ2_indexOfSupplementary_4cfef 66 = .ok (.goto (-38), 3) := by decide +kernel
theorem dJ2_indexOfSupplementary_4cfef_69 : decode cJ2_indexOfSupplementary_4cfef 69 = .ok (.iconst (-1), 1) := by decide +kernel
theorem dJ2_indexOfSupplementary_4cfef_70 : decode cJ2_indexOfSupplementary_4cfef 70 = .ok (.ireturn, 1) := by decide +kernel
theorem dJ2_charAt_3b067_0 : decode cJ2_charAt_3b067 0 = .ok (.iload_n 1, 1) := by decide +kernel
theorem dJ2_charAt_3b067_1 : decode cJ2_charAt_3b067 1 = .ok (.aload_n 0, 1) := by decide +kernel
theorem dJ2_charAt_3b067_2 : decode cJ2_charAt_3b067 2 = .ok (.invokestatic 67, 3) := by decide +kernel
theorem dJ2_charAt_3b067_5 : decode cJ2_charAt_3b067 5 = .ok (.aload_n 0, 1) := by decide +kernel
theorem dJ2_charAt_3b067_6 : decode cJ2_charAt_3b067 6 = .ok (.iload_n 1, 1) := by decide +kernel
theorem dJ2_charAt_3b067_7 : decode cJ2_charAt_3b067 7 = .ok (.invokestatic 71, 3) := by decide +kernel
theorem dJ2_charAt_3b067_10 : decode cJ2_charAt_3b067 10 = .ok (.ireturn, 1) := by decide +kernel
theorem dJ2_checkIndex_2214a_0 : decode cJ2_checkIndex_2214a 0 = .ok (.iload_n 0, 1) := by decide +kernel
theorem dJ2_checkIndex_2214a_1 : decode cJ2_checkIndex_2214a 1 = .ok (.aload_n 1, 1) := by decide +kernel
theorem dJ2_checkIndex_2214a_2 : decode cJ2_checkIndex_2214a 2 = .ok (.invokestatic 48, 3) := by decide +kernel
theorem dJ2_checkIndex_2214a_5 : decode cJ2_checkIndex_2214a 5 = .ok (.invokestatic 414, 3) := by decide +kernel
theorem dJ2_checkIndex_2214a_8 : decode cJ2_checkIndex_2214a 8 = .ok (.return_, 1) := by decide +kernel
theorem dJ2_checkBoundsBeginEnd_d044e_0 : decode cJ2_checkBoundsBeginEnd_d044e 0 = .ok (.iload_n 0, 1) := by decide +kernel
theorem dJ2_checkBoundsBeginEnd_d044e_1 : decode cJ2_checkBoundsBeginEnd_d044e 1 = .ok (.iload_n 1, 1) := by decide +kernel
theorem dJ2_checkBoundsBeginEnd_d044e_2 : decode cJ2_checkBoundsBeginEnd_d044e 2 = .ok (.aload_n 2, 1) := by decide +kernel
theorem dJ2_checkBoundsBeginEnd_d044e_3 : decode cJ2_checkBoundsBeginEnd_d044e 3 = .ok (.invokestatic 48, 3) := by decide +kernel
theorem dJ2_checkBoundsBeginEnd_d044e_6 : decode cJ2_checkBoundsBeginEnd_d044e 6 = .ok (.invokestatic 241, 3) := by decide +kernel
theorem dJ2_checkBoundsBeginEnd_d044e_9 : decode cJ2_checkBoundsBeginEnd_d044e 9 = .ok (.return_, 1) := by decide +kernel
theorem dJ7_fill_d0a16_0 : decode cJ7_fill_d0a16 0 = .ok (.iconst 0, 1) := by decide +kernel
theorem dJ7_fill_d0a16_1 : decode cJ7_fill_d0a16 1 = .ok (.istore_n 3, 1) := by decide +kernel
theorem dJ7_fill_d0a16_2 : decode cJ7_fill_d0a16 2 = .ok (.aload_n 0, 1) := by decide +kernel
theorem dJ7_fill_d0a16_3 : decode cJ7_fill_d0a16 3 = .ok (.arraylength, 1) := by decide +kernel
theorem dJ7_fill_d0a16_4 : decode cJ7_fill_d0a16 4 = .ok (.istore 4, 2) := by decide +kernel
theorem dJ7_fill_d0a16_6 : decode cJ7_fill_d0a16 6 = .ok (.iload_n 3, 1) := by decide +kernel
theorem dJ7_fill_d0a16_7 : decode cJ7_fill_d0a16 7 = .ok (.iload 4, 2) := by decide +kernel
theorem dJ7_fill_d0a16_9 : decode cJ7_fill_d0a16 9 = .ok (.if_icmp .ge 13, 3) := by decide +kernel
theorem dJ7_fill_d0a16_12 : decode cJ7_fill_d0a16 12 = .ok (.aload_n 0, 1) := by decide +kernel
theorem dJ7_fill_d0a16_13 : decode cJ7_fill_d0a16 13 = .ok (.iload_n 3, 1) := by decide +kernel
theorem dJ7_fill_d0a16_14 : decode cJ7_fill_d0a16 14 = .ok (.lload_n 1, 1) := by decide +kernel
theorem dJ7_fill_d0a16_15 : decode cJ7_fill_d0a16 15 = .ok (.lastore, 1) := by decide +kernel
theorem dJ7_fill_d0a16_16 : decode cJ7_fill_d0a16 16 = .ok (.iinc 3 1, 3) := by decide +kernel
theorem dJ7_fill_d0a16_19 : decode cJ7_fill_d0a16 19 = .ok (.goto (-13), 3) := by decide +kernel
theorem dJ7_fill_d0a16_22 : decode cJ7_fill_d0a16 22 = .ok (.return_, 1) := by decide +kernel
theorem dJ7_fill_53178_0 : decode cJ7_fill_53178 0 = .ok (.iconst 0, 1) := by decide +kernel
theorem dJ7_fill_53178_1 : decode cJ7_fill_53178 1 = .ok (.istore_n 2, 1) := by decide +kernel
theorem dJ7_fill_53178_2 : decode cJ7_fill_53178 2 = .ok (.aload_n 0, 1) := by decide +kernel
theorem dJ7_fill_53178_3 : decode cJ7_fill_53178 3 = .ok (.arraylength, 1) := by decide +kernel
theorem dJ7_fill_53178_4 : decode cJ7_fill_53178 4 = .ok (.istore_n 3, 1) := by decide +kernel
theorem dJ7_fill_53178_5 : decode cJ7_fill_53178 5 = .ok (.iload_n 2, 1) := by decide +kernel
theorem dJ7_fill_53178_6 : decode cJ7_fill_53178 6 = .ok (.iload_n 3, 1) := by decide +kernel
theorem dJ7_fill_53178_7 : decode cJ7_fill_53178 7 = .ok (.if_icmp .ge 13, 3) := by decide +kernel
theorem dJ7_fill_53178_10 : decode cJ7_fill_53178 10 = .ok (.aload_n 0, 1) := by decide +kernel
theorem dJ7_fill_53178_11 : decode cJ7_fill_53178 11 = .ok (.iload_n 2, 1) := by decide +kernel
theorem dJ7_fill_53178_12 : decode cJ7_fill_53178 12 = .ok (.iload_n 1, 1) := by decide +kernel
theorem dJ7_fill_53178_13 : decode cJ7_fill_53178 13 = .ok (.iastore, 1) := by decide +kernel
theorem dJ7_fill_53178_14 : decode cJ7_fill_53178 14 = .ok (.iinc 2 1, 3) := by decide +kernel
theorem dJ7_fill_53178_17 : decode cJ7_fill_53178 17 = .ok (.goto (-12), 3) := by decide +kernel
theorem dJ7_fill_53178_20 : decode cJ7_fill_53178 20 = .ok (.return_, 1) := by decide +kernel
theorem dJ3_checkIndex_8e157_0 : decode cJ3_checkIndex_8e157 0 = .ok (.iload_n 0, 1) := by decide +kernel
theorem dJ3_checkIndex_8e157_1 : decode cJ3_checkIndex_8e157 1 = .ok (.ifCond .lt 8, 3) := by decide +kernel
theorem dJ3_checkIndex_8e157_4 : decode cJ3_checkIndex_8e157 4 = .ok (.iload_n 0, 1) := by decide +kernel
theorem dJ3_checkIndex_8e157_5 : decode cJ3_checkIndex_8e157 5 = .ok (.iload_n 1, 1) := by decide +kernel
theorem dJ3_checkIndex_8e157_6 : decode cJ3_checkIndex_8e157 6 = .ok (.if_icmp .lt 10, 3) := by decide +kernel
theorem dJ3_checkIndex_8e157_9 : decode cJ3_checkIndex_8e157 9 = .ok (.aload_n 2, 1) := by decide +kernel
theorem dJ3_checkIndex_8e157_10 : decode cJ3_checkIndex_8e157 10 = .ok (.iload_n 0, 1) := by decide +kernel
theorem dJ3_checkIndex_8e157_11 : decode cJ3_checkIndex_8e157 11 = .ok (.iload_n 1, 1) := by decide +kernel
theorem dJ3_checkIndex_8e157_12 : decode cJ3_checkIndex_8e157 12 = .ok (.invokestatic 95, 3) := by decide +kernel
theorem dJ3_checkIndex_8e157_15 : decode cJ3_checkIndex_8e157 15 = .ok (.athrow, 1) := by decide +kernel
theorem dJ3_checkIndex_8e157_16 : decode cJ3_checkIndex_8e157 16 = .ok (.iload_n 0, 1) := by decide +kernel
theorem dJ3_checkIndex_8e157_17 : decode cJ3_checkIndex_8e157 17 = .ok (.ireturn, 1) := by decide +kernel
theorem dJ3_checkFromToIndex_8c36e_0 : decode cJ3_checkFromToIndex_8c36e 0 = .ok (.iload_n 0, 1) := by decide +kernel
theorem dJ3_checkFromToIndex_8c36e_1 : decode cJ3_checkFromToIndex_8c36e 1 = .ok (.ifCond .lt 13, 3) := by decide +kernel
theorem dJ3_checkFromToIndex_8c36e_4 : decode cJ3_checkFromToIndex_8c36e 4 = .ok (.iload_n 0, 1) := by decide +kernel
theorem dJ3_checkFromToIndex_8c36e_5 : decode cJ3_checkFromToIndex_8c36e 5 = .ok (.iload_n 1, 1) := by decide +kernel
theorem dJ3_checkFromToIndex_8c36e_6 : decode cJ3_checkFromToIndex_8c36e 6 = .ok (.if_icmp .gt 8, 3) := by decide +kernel
theorem dJ3_checkFromToIndex_8c36e_9 : decode cJ3_checkFromToIndex_8c36e 9 = .ok (.iload_n 1, 1) := by decide +kernel
theorem dJ3_checkFromToIndex_8c36e_10 : decode cJ3_checkFromToIndex_8c36e 10 = .ok (.iload_n 2, 1) := by decide +kernel
theorem dJ3_checkFromToIndex_8c36e_11 : decode cJ3_checkFromToIndex_8c36e 11 = .ok (.if_icmp .le 11, 3) := by decide +kernel
theorem dJ3_checkFromToIndex_8c36e_14 : decode cJ3_checkFromToIndex_8c36e 14 = .ok (.aload_n 3, 1) := by decide +kernel
theorem dJ3_checkFromToIndex_8c36e_15 : decode cJ3_checkFromToIndex_8c36e 15 = .ok (.iload_n 0, 1) := by decide +kernel
theorem dJ3_checkFromToIndex_8c36e_16 : decode cJ3_checkFromToIndex_8c36e 16 = .ok (.iload_n 1, 1) := by decide +kernel
theorem dJ3_checkFromToIndex_8c36e_17 : decode cJ3_checkFromToIndex_8c36e 17 = .ok (.iload_n 2, 1) := by decide +kernel
theorem dJ3_checkFromToIndex_8c36e_18 : decode cJ3_checkFromToIndex_8c36e 18 = .ok (.invokestatic 99, 3) := by decide +kernel
theorem dJ3_checkFromToIndex_8c36e_21 : decode cJ3_checkFromToIndex_8c36e 21 = .ok (.athrow, 1) := by decide +kernel
theorem dJ3_checkFromToIndex_8c36e_22 : decode cJ3_checkFromToIndex_8c36e 22 = .ok (.iload_n 0, 1) := by decide +kernel
theorem dJ3_checkFromToIndex_8c36e_23 : decode cJ3_checkFromToIndex_8c36e 23 = .ok (.ireturn, 1) := by decide +kernel
theorem dL_law_0 : decode cL_law 0 = .ok (.new 7, 3) := by decide +kernel
theorem dL_law_3 : decode cL_law 3 = .ok (.dup, 1) := by decide +kernel
theorem dL_law_4 : decode cL_law 4 = .ok (.invokespecial 9, 3) := by decide +kernel
theorem dL_law_7 : decode cL_law 7 = .ok (.astore_n 1, 1) := by decide +kernel
theorem dL_law_8 : decode cL_law 8 = .ok (.new 10, 3) := by decide +kernel
theorem dL_law_11 : decode cL_law 11 = .ok (.dup, 1) := by decide +kernel
theorem dL_law_12 : decode cL_law 12 = .ok (.invokespecial 12, 3) := by decide +kernel
theorem dL_law_15 : decode cL_law 15 = .ok (.astore_n 2, 1) := by decide +kernel
theorem dL_law_16 : decode cL_law 16 = .ok (.iconst 0, 1) := by decide +kernel
theorem dL_law_17 : decode cL_law 17 = .ok (.istore_n 3, 1) := by decide +kernel
theorem dL_law_18 : decode cL_law 18 = .ok (.iload_n 3, 1) := by decide +kernel
theorem dL_law_19 : decode cL_law 19 = .ok (.aload_n 0, 1) := by decide +kernel
theorem dL_law_20 : decode cL_law 20 = .ok (.arraylength, 1) := by decide +kernel
theorem dL_law_21 : decode cL_law 21 = .ok (.bipush 6, 2) := by decide +kernel
theorem dL_law_23 : decode cL_law 23 = .ok (.isub, 1) := by decide +kernel
theorem dL_law_24 : decode cL_law 24 = .ok (.if_icmp .gt 1333, 3) := by decide +kernel
theorem dL_law_27 : decode cL_law 27 = .ok (.aload_n 0, 1) := by decide +kernel
theorem dL_law_28 : decode cL_law 28 = .ok (.iload_n 3, 1) := by decide +kernel
theorem dL_law_29 : decode cL_law 29 = .ok (.iaload, 1) := by decide +kernel
theorem dL_law_30 : decode cL_law 30 = .ok (.bipush 63, 2) := by decide +kernel
theorem dL_law_32 : decode cL_law 32 = .ok (.iand, 1) := by decide +kernel
theorem dL_law_33 : decode cL_law 33 = .ok (.tableswitch 1318 0 33 #[151, 194, 227, 270, 303, 352, 385, 428, 451, 464, 487, 510, 543, 576, 619, 688, 721, 754, 788, 822, 855, 878, 911, 924, 957, 970, 983, 1026, 1049, 1082, 1105, 1148, 1221, 1255], 151) := by decide +kernel
theorem dL_law_184 : decode cL_law 184 = .ok (.aload_n 1, 1) := by decide +kernel
theorem dL_law_185 : decode cL_law 185 = .ok (.aload_n 0, 1) := by decide +kernel
theorem dL_law_186 : decode cL_law 186 = .ok (.iload_n 3, 1) := by decide +kernel
theorem dL_law_187 : decode cL_law 187 = .ok (.iconst 1, 1) := by decide +kernel
theorem dL_law_188 : decode cL_law 188 = .ok (.iadd, 1) := by decide +kernel
theorem dL_law_189 : decode cL_law 189 = .ok (.iaload, 1) := by decide +kernel
theorem dL_law_190 : decode cL_law 190 = .ok (.aload_n 0, 1) := by decide +kernel
theorem dL_law_191 : decode cL_law 191 = .ok (.iload_n 3, 1) := by decide +kernel
theorem dL_law_192 : decode cL_law 192 = .ok (.iconst 2, 1) := by decide +kernel
theorem dL_law_193 : decode cL_law 193 = .ok (.iadd, 1) := by decide +kernel
theorem dL_law_194 : decode cL_law 194 = .ok (.iaload, 1) := by decide +kernel
theorem dL_law_195 : decode cL_law 195 = .ok (.aload_n 0, 1) := by decide +kernel
theorem dL_law_196 : decode cL_law 196 = .ok (.iload_n 3, 1) := by decide +kernel
theorem dL_law_197 : decode cL_law 197 = .ok (.iconst 3, 1) := by decide +kernel
theorem dL_law_198 : decode cL_law 198 = .ok (.iadd, 1) := by decide +kernel
theorem dL_law_199 : decode cL_law 199 = .ok (.iaload, 1) := by decide +kernel
theorem dL_law_200 : decode cL_law 200 = .ok (.invokevirtual 13, 3) := by decide +kernel
theorem dL_law_203 : decode cL_law 203 = .ok (.aload_n 2, 1) := by decide +kernel
theorem dL_law_204 : decode cL_law 204 = .ok (.aload_n 0, 1) := by decide +kernel
theorem dL_law_205 : decode cL_law 205 = .ok (.iload_n 3, 1) := by decide +kernel
theorem dL_law_206 : decode cL_law 206 = .ok (.iconst 1, 1) := by decide +kernel
theorem dL_law_207 : decode cL_law 207 = .ok (.iadd, 1) := by decide +kernel
theorem dL_law_208 : decode cL_law 208 = .ok (.iaload, 1) := by decide +kernel
theorem dL_law_209 : decode cL_law 209 = .ok (.aload_n 0, 1) := by decide +kernel
theorem dL_law_210 : decode cL_law 210 = .ok (.iload_n 3, 1) := by decide +kernel
theorem dL_law_211 : decode cL_law 211 = .ok (.iconst 2, 1) := by decide +kernel
theorem dL_law_212 : decode cL_law 212 = .ok (.iadd, 1) := by decide +kernel
theorem dL_law_213 : decode cL_law 213 = .ok (.iaload, 1) := by decide +kernel
theorem dL_law_214 : decode cL_law 214 = .ok (.aload_n 0, 1) := by decide +kernel
theorem dL_law_215 : decode cL_law 215 = .ok (.iload_n 3, 1) := by decide +kernel
theorem dL_law_216 : decode cL_law 216 = .ok (.iconst 3, 1) := by decide +kernel
theorem dL_law_217 : decode cL_law 217 = .ok (.iadd, 1) := by decide +kernel
theorem dL_law_218 : decode cL_law 218 = .ok (.iaload, 1) := by decide +kernel
theorem dL_law_219 : decode cL_law 219 = .ok (.invokevirtual 17, 3) := by decide +kernel
theorem dL_law_222 : decode cL_law 222 = .ok (.if_icmp .eq 1129, 3) := by decide +kernel
theorem dL_law_225 : decode cL_law 225 = .ok (.iconst 0, 1) := by decide +kernel
theorem dL_law_226 : decode cL_law 226 = .ok (.ireturn, 1) := by decide +kernel
theorem dL_law_227 : decode cL_law 227 = .ok (.aload_n 1, 1) := by decide +kernel
theorem dL_law_228 : decode cL_law 228 = .ok (.aload_n 0, 1) := by decide +kernel
theorem dL_law_229 : decode cL_law 229 = .ok (.iload_n 3, 1) := by decide +kernel
theorem dL_law_230 : decode cL_law 230 = .ok (.iconst 1, 1) := by decide +kernel
theorem dL_law_231 : decode cL_law 231 = .ok (.iadd, 1) := by decide +kernel
theorem dL_law_232 : decode cL_law 232 = .ok (.iaload, 1) := by decide +kernel
theorem dL_law_233 : decode cL_law 233 = .ok (.aload_n 0, 1) := by decide +kernel
theorem dL_law_234 : decode cL_law 234 = .ok (.iload_n 3, 1) := by decide +kernel
theorem dL_law_235 : decode cL_law 235 = .ok (.iconst 2, 1) := by decide +kernel
theorem dL_law_236 : decode cL_law 236 = .ok (.iadd, 1) := by decide +kernel
theorem dL_law_237 : decode cL_law 237 = .ok (.iaload, 1) := by decide +kernel
theorem dL_law_238 : decode cL_law 238 = .ok (.invokevirtual 18, 3) := by decide +kernel
theorem dL_law_241 : decode cL_law 241 = .ok (.aload_n 2, 1) := by decide +kernel
theorem dL_law_242 : decode cL_law 242 = .ok (.aload_n 0, 1) := by decide +kernel
theorem dL_law_243 : decode cL_law 243 = .ok (.iload_n 3, 1) := by decide +kernel
theorem dL_law_244 : decode cL_law 244 = .ok (.iconst 1, 1) := by decide +kernel
theorem dL_law_245 : decode cL_law 245 = .ok (.iadd, 1) := by decide +kernel
theorem dL_law_246 : decode cL_law 246 = .ok (.iaload, 1) := by decide +kernel
theorem dL_law_247 : decode cL_law 247 = .ok (.aload_n 0, 1) := by decide +kernel
theorem dL_law_248 : decode cL_law 248 = .ok (.iload_n 3, 1) := by decide +kernel
theorem dL_law_249 : decode cL_law 249 = .ok (.iconst 2, 1) := by decide +kernel
theorem dL_law_250 : decode cL_law 250 = .ok (.iadd, 1) := by decide +kernel
theorem dL_law_251 : decode cL_law 251 = .ok (.iaload, 1) := by decide +kernel
theorem dL_law_252 : decode cL_law 252 = .ok (.invokevirtual 22, 3) := by decide +kernel
theorem dL_law_255 : decode cL_law 255 = .ok (.if_icmp .eq 1096, 3) := by decide +kernel
theorem dL_law_258 : decode cL_law 258 = .ok (.iconst 0, 1) := by decide +kernel
theorem dL_law_259 : decode cL_law 259 = .ok (.ireturn, 1) := by decide +kernel
theorem dL_law_260 : decode cL_law 260 = .ok (.aload_n 1, 1) := by decide +kernel
theorem dL_law_261 : decode cL_law 261 = .ok (.aload_n 0, 1) := by decide +kernel
theorem dL_law_262 : decode cL_law 262 = .ok (.iload_n 3, 1) := by decide +kernel
theorem dL_law_263 : decode cL_law 263 = .ok (.iconst 1, 1) := by decide +kernel
theorem dL_law_264 : decode cL_law 264 = .ok (.iadd, 1) := by decide +kernel
theorem dL_law_265 : decode cL_law 265 = .ok (.iaload, 1) := by decide +kernel
theorem dL_law_266 : decode cL_law 266 = .ok (.aload_n 0, 1) := by decide +kernel
theorem dL_law_267 : decode cL_law 267 = .ok (.iload_n 3, 1) := by decide +kernel
theorem dL_law_268 : decode cL_law 268 = .ok (.iconst 2, 1) := by decide +kernel
theorem dL_law_269 : decode cL_law 269 = .ok (.iadd, 1) := by decide +kernel
theorem dL_law_270 : decode cL_law 270 = .ok (.iaload, 1) := by decide +kernel
theorem dL_law_271 : decode cL_law 271 = .ok (.aload_n 0, 1) := by decide +kernel
theorem dL_law_272 : decode cL_law 272 = .ok (.iload_n 3, 1) := by decide +kernel
theorem dL_law_273 : decode cL_law 273 = .ok (.iconst 3, 1) := by decide +kernel
theorem dL_law_274 : decode cL_law 274 = .ok (.iadd, 1) := by decide +kernel
theorem dL_law_275 : decode cL_law 275 = .ok (.iaload, 1) := by decide +kernel
theorem dL_law_276 : decode cL_law 276 = .ok (.invokevirtual 23, 3) := by decide +kernel
theorem dL_law_279 : decode cL_law 279 = .ok (.aload_n 2, 1) := by decide +kernel
theorem dL_law_280 : decode cL_law 280 = .ok (.aload_n 0, 1) := by decide +kernel
theorem dL_law_281 : decode cL_law 281 = .ok (.iload_n 3, 1) := by decide +kernel
theorem dL_law_282 : decode cL_law 282 = .ok (.iconst 1, 1) := by decide +kernel
theorem dL_law_283 : decode cL_law 283 = .ok (.iadd, 1) := by decide +kernel
theorem dL_law_284 : decode cL_law 284 = .ok (.iaload, 1) := by decide +kernel
theorem dL_law_285 : decode cL_law 285 = .ok (.aload_n 0, 1) := by decide +kernel
theorem dL_law_286 : decode cL_law 286 = .ok (.iload_n 3, 1) := by decide +kernel
theorem dL_law_287 : decode cL_law 287 = .ok (.iconst 2, 1) := by decide +kernel
theorem dL_law_288 : decode cL_law 288 = .ok (.iadd, 1) := by decide +kernel
theorem dL_law_289 : decode cL_law 289 = .ok (.iaload, 1) := by decide +kernel
theorem dL_law_290 : decode cL_law 290 = .ok (.aload_n 0, 1) := by decide +kernel
theorem dL_law_291 : decode cL_law 291 = .ok (.iload_n 3, 1) := by decide +kernel
theorem dL_law_292 : decode cL_law 292 = .ok (.iconst 3, 1) := by decide +kernel
theorem dL_law_293 : decode cL_law 293 = .ok (.iadd, 1) := by decide +kernel
theorem dL_law_294 : decode cL_law 294 = .ok (.iaload, 1) := by decide +kernel
theorem dL_law_295 : decode cL_law 295 = .ok (.invokevirtual 26, 3) := by decide +kernel
theorem dL_law_298 : decode cL_law 298 = .ok (.if_icmp .eq 1053, 3) := by decide +kernel
theorem dL_law_301 : decode cL_law 301 = .ok (.iconst 0, 1) := by decide +kernel
theorem dL_law_302 : decode cL_law 302 = .ok (.ireturn, 1) := by decide +kernel
theorem dL_law_303 : decode cL_law 303 = .ok (.aload_n 1, 1) := by decide +kernel
theorem dL_law_304 : decode cL_law 304 = .ok (.aload_n 0, 1) := by decide +kernel
theorem dL_law_305 : decode cL_law 305 = .ok (.iload_n 3, 1) := by decide +kernel
theorem dL_law_306 : decode cL_law 306 = .ok (.iconst 1, 1) := by decide +kernel
theorem dL_law_307 : decode cL_law 307 = .ok (.iadd, 1) := by decide +kernel
theorem dL_law_308 : decode cL_law 308 = .ok (.iaload, 1) := by decide +kernel
theorem dL_law_309 : decode cL_law 309 = .ok (.aload_n 0, 1) := by decide +kernel
theorem dL_law_310 : decode cL_law 310 = .ok (.iload_n 3, 1) := by decide +kernel
theorem dL_law_311 : decode cL_law 311 = .ok (.iconst 2, 1) := by decide +kernel
theorem dL_law_312 : decode cL_law 312 = .ok (.iadd, 1) := by decide +kernel
theorem dL_law_313 : decode cL_law 313 = .ok (.iaload, 1) := by decide +kernel
theorem dL_law_314 : decode cL_law 314 = .ok (.invokevirtual 27, 3) := by decide +kernel
theorem dL_law_317 : decode cL_law 317 = .ok (.aload_n 2, 1) := by decide +kernel
theorem dL_law_318 : decode cL_law 318 = .ok (.aload_n 0, 1) := by decide +kernel
theorem dL_law_319 : decode cL_law 319 = .ok (.iload_n 3, 1) := by decide +kernel
theorem dL_law_320 : decode cL_law 320 = .ok (.iconst 1, 1) := by decide +kernel
theorem dL_law_321 : decode cL_law 321 = .ok (.iadd, 1) := by decide +kernel
theorem dL_law_322 : decode cL_law 322 = .ok (.iaload, 1) := by decide +kernel
theorem dL_law_323 : decode cL_law 323 = .ok (.aload_n 0, 1) := by decide +kernel
theorem dL_law_324 : decode cL_law 324 = .ok (.iload_n 3, 1) := by decide +kernel
theorem dL_law_325 : decode cL_law 325 = .ok (.iconst 2, 1) := by decide +kernel
theorem dL_law_326 : decode cL_law 326 = .ok (.iadd, 1) := by decide +kernel
theorem dL_law_327 : decode cL_law 327 = .ok (.iaload, 1) := by decide +kernel
theorem dL_law_328 : decode cL_law 328 = .ok (.invokevirtual 30, 3) := by decide +kernel
theorem dL_law_331 : decode cL_law 331 = .ok (.if_icmp .eq 1020, 3) := by decide +kernel
theorem dL_law_334 : decode cL_law 334 = .ok (.iconst 0, 1) := by decide +kernel
theorem dL_law_335 : decode cL_law 335 = .ok (.ireturn, 1) := by decide +kernel
theorem dL_law_336 : decode cL_law 336 = .ok (.aload_n 1, 1) := by decide +kernel
theorem dL_law_337 : decode cL_law 337 = .ok (.aload_n 0, 1) := by decide +kernel
theorem dL_law_338 : decode cL_law 338 = .ok (.iload_n 3, 1) := by decide +kernel
theorem dL_law_339 : decode cL_law 339 = .ok (.iconst 1, 1) := by decide +kernel
theorem dL_law_340 : decode cL_law 340 = .ok (.iadd, 1) := by decide +kernel
theorem dL_law_341 : decode cL_law 341 = .ok (.iaload, 1) := by decide +kernel
theorem dL_law_342 : decode cL_law 342 = .ok (.aload_n 0, 1) := by decide +kernel
theorem dL_law_343 : decode cL_law 343 = .ok (.iload_n 3, 1) := by decide +kernel
theorem dL_law_344 : decode cL_law 344 = .ok (.iconst 2, 1) := by decide +kernel
theorem dL_law_345 : decode cL_law 345 = .ok (.iadd, 1) := by decide +kernel
theorem dL_law_346 : decode cL_law 346 = .ok (.iaload, 1) := by decide +kernel
theorem dL_law_347 : decode cL_law 347 = .ok (.ifCond .eq 7, 3) := by decide +kernel
theorem dL_law_350 : decode cL_law 350 = .ok (.iconst 1, 1) := by decide +kernel
theorem dL_law_351 : decode cL_law 351 = .ok (.goto 4, 3) := by decide +kernel
theorem dL_law_354 : decode cL_law 354 = .ok (.iconst 0, 1) := by decide +kernel
theorem dL_law_355 : decode cL_law 355 = .ok (.invokevirtual 31, 3) := by decide +kernel
theorem dL_law_358 : decode cL_law 358 = .ok (.aload_n 2, 1) := by decide +kernel
theorem dL_law_359 : decode cL_law 359 = .ok (.aload_n 0, 1) := by decide +kernel
theorem dL_law_360 : decode cL_law 360 = .ok (.iload_n 3, 1) := by decide +kernel
theorem dL_law_361 : decode cL_law 361 = .ok (.iconst 1, 1) := by decide +kernel
theorem dL_law_362 : decode cL_law 362 = .ok (.iadd, 1) := by decide +kernel
theorem dL_law_363 : decode cL_law 363 = .ok (.iaload, 1) := by decide +kernel
theorem dL_law_364 : decode cL_law 364 = .ok (.aload_n 0, 1) := by decide +kernel
theorem dL_law_365 : decode cL_law 365 = .ok (.iload_n 3, 1) := by decide +kernel
theorem dL_law_366 : decode cL_law 366 = .ok (.iconst 2, 1) := by decide +kernel
theorem dL_law_367 : decode cL_law 367 = .ok (.iadd, 1) := by decide +kernel
theorem dL_law_368 : decode cL_law 368 = .ok (.iaload, 1) := by decide +kernel
theorem dL_law_369 : decode cL_law 369 = .ok (.ifCond .eq 7, 3) := by decide +kernel
theorem dL_law_372 : decode cL_law 372 = .ok (.iconst 1, 1) := by decide +kernel
theorem dL_law_373 : decode cL_law 373 = .ok (.goto 4, 3) := by decide +kernel
theorem dL_law_376 : decode cL_law 376 = .ok (.iconst 0, 1) := by decide +kernel
theorem dL_law_377 : decode cL_law 377 = .ok (.invokevirtual 35, 3) := by decide +kernel
theorem dL_law_380 : decode cL_law 380 = .ok (.if_icmp .eq 971, 3) := by decide +kernel
theorem dL_law_383 : decode cL_law 383 = .ok (.iconst 0, 1) := by decide +kernel
theorem dL_law_384 : decode cL_law 384 = .ok (.ireturn, 1) := by decide +kernel
theorem dL_law_385 : decode cL_law 385 = .ok (.aload_n 1, 1) := by decide +kernel
theorem dL_law_386 : decode cL_law 386 = .ok (.aload_n 0, 1) := by decide +kernel
theorem dL_law_387 : decode cL_law 387 = .ok (.iload_n 3, 1) := by decide +kernel
theorem dL_law_388 : decode cL_law 388 = .ok (.iconst 1, 1) := by decide +kernel
theorem dL_law_389 : decode cL_law 389 = .ok (.iadd, 1) := by decide +kernel
theorem dL_law_390 : decode cL_law 390 = .ok (.iaload, 1) := by decide +kernel
theorem dL_law_391 : decode cL_law 391 = .ok (.aload_n 0, 1) := by decide +kernel
theorem dL_law_392 : decode cL_law 392 = .ok (.iload_n 3, 1) := by decide +kernel
theorem dL_law_393 : decode cL_law 393 = .ok (.iconst 2, 1) := by decide +kernel
theorem dL_law_394 : decode cL_law 394 = .ok (.iadd, 1) := by decide +kernel
theorem dL_law_395 : decode cL_law 395 = .ok (.iaload, 1) := by decide +kernel
theorem dL_law_396 : decode cL_law 396 = .ok (.invokevirtual 36, 3) := by decide +kernel
theorem dL_law_399 : decode cL_law 399 = .ok (.aload_n 2, 1) := by decide +kernel
theorem dL_law_400 : decode cL_law 400 = .ok (.aload_n 0, 1) := by decide +kernel
theorem dL_law_401 : decode cL_law 401 = .ok (.iload_n 3, 1) := by decide +kernel
theorem dL_law_402 : decode cL_law 402 = .ok (.iconst 1, 1) := by decide +kernel
theorem dL_law_403 : decode cL_law 403 = .ok (.iadd, 1) := by decide +kernel
theorem dL_law_404 : decode cL_law 404 = .ok (.iaload, 1) := by decide +kernel
theorem dL_law_405 : decode cL_law 405 = .ok (.aload_n 0, 1) := by decide +kernel
theorem dL_law_406 : decode cL_law 406 = .ok (.iload_n 3, 1) := by decide +kernel
theorem dL_law_407 : decode cL_law 407 = .ok (.iconst 2, 1) := by decide +kernel
theorem dL_law_408 : decode cL_law 408 = .ok (.iadd, 1) := by decide +kernel
theorem dL_law_409 : decode cL_law 409 = .ok (.iaload, 1) := by decide +kernel
theorem dL_law_410 : decode cL_law 410 = .ok (.invokevirtual 39, 3) := by decide +kernel
theorem dL_law_413 : decode cL_law 413 = .ok (.if_icmp .eq 938, 3) := by decide +kernel
theorem dL_law_416 : decode cL_law 416 = .ok (.iconst 0, 1) := by decide +kernel
theorem dL_law_417 : decode cL_law 417 = .ok (.ireturn, 1) := by decide +kernel
theorem dL_law_418 : decode cL_law 418 = .ok (.aload_n 1, 1) := by decide +kernel
theorem dL_law_419 : decode cL_law 419 = .ok (.aload_n 0, 1) := by decide +kernel
theorem dL_law_420 : decode cL_law 420 = .ok (.iload_n 3, 1) := by decide +kernel
theorem dL_law_421 : decode cL_law 421 = .ok (.iconst 1, 1) := by decide +kernel
theorem dL_law_422 : decode cL_law 422 = .ok (.iadd, 1) := by decide +kernel
theorem dL_law_423 : decode cL_law 423 = .ok (.iaload, 1) := by decide +kernel
theorem dL_law_424 : decode cL_law 424 = .ok (.aload_n 0, 1) := by decide +kernel
theorem dL_law_425 : decode cL_law 425 = .ok (.iload_n 3, 1) := by decide +kernel
theorem dL_law_426 : decode cL_law 426 = .ok (.iconst 2, 1) := by decide +kernel
theorem dL_law_427 : decode cL_law 427 = .ok (.iadd, 1) := by decide +kernel
theorem dL_law_428 : decode cL_law 428 = .ok (.iaload, 1) := by decide +kernel
theorem dL_law_429 : decode cL_law 429 = .ok (.aload_n 0, 1) := by decide +kernel
theorem dL_law_430 : decode cL_law 430 = .ok (.iload_n 3, 1) := by decide +kernel
theorem dL_law_431 : decode cL_law 431 = .ok (.iconst 3, 1) := by decide +kernel
theorem dL_law_432 : decode cL_law 432 = .ok (.iadd, 1) := by decide +kernel
theorem dL_law_433 : decode cL_law 433 = .ok (.iaload, 1) := by decide +kernel
theorem dL_law_434 : decode cL_law 434 = .ok (.invokevirtual 40, 3) := by decide +kernel
theorem dL_law_437 : decode cL_law 437 = .ok (.aload_n 2, 1) := by decide +kernel
theorem dL_law_438 : decode cL_law 438 = .ok (.aload_n 0, 1) := by decide +kernel
theorem dL_law_439 : decode cL_law 439 = .ok (.iload_n 3, 1) := by decide +kernel
theorem dL_law_440 : decode cL_law 440 = .ok (.iconst 1, 1) := by decide +kernel
theorem dL_law_441 : decode cL_law 441 = .ok (.iadd, 1) := by decide +kernel
theorem dL_law_442 : decode cL_law 442 = .ok (.iaload, 1) := by decide +kernel
theorem dL_law_443 : decode cL_law 443 = .ok (.aload_n 0, 1) := by decide +kernel
theorem dL_law_444 : decode cL_law 444 = .ok (.iload_n 3, 1) := by decide +kernel
theorem dL_law_445 : decode cL_law 445 = .ok (.iconst 2, 1) := by decide +kernel
theorem dL_law_446 : decode cL_law 446 = .ok (.iadd, 1) := by decide +kernel
theorem dL_law_447 : decode cL_law 447 = .ok (.iaload, 1) := by decide +kernel
theorem dL_law_448 : decode cL_law 448 = .ok (.aload_n 0, 1) := by decide +kernel
theorem dL_law_449 : decode cL_law 449 = .ok (.iload_n 3, 1) := by decide +kernel
theorem dL_law_450 : decode cL_law 450 = .ok (.iconst 3, 1) := by decide +kernel
theorem dL_law_451 : decode cL_law 451 = .ok (.iadd, 1) := by decide +kernel
theorem dL_law_452 : decode cL_law 452 = .ok (.iaload, 1) := by decide +kernel
theorem dL_law_453 : decode cL_law 453 = .ok (.invokevirtual 43, 3) := by decide +kernel
theorem dL_law_456 : decode cL_law 456 = .ok (.if_icmp .eq 895, 3) := by decide +kernel
theorem dL_law_459 : decode cL_law 459 = .ok (.iconst 0, 1) := by decide +kernel
theorem dL_law_460 : decode cL_law 460 = .ok (.ireturn, 1) := by decide +kernel
theorem dL_law_461 : decode cL_law 461 = .ok (.aload_n 1, 1) := by decide +kernel
theorem dL_law_462 : decode cL_law 462 = .ok (.aload_n 0, 1) := by decide +kernel
theorem dL_law_463 : decode cL_law 463 = .ok (.iload_n 3, 1) := by decide +kernel
theorem dL_law_464 : decode cL_law 464 = .ok (.iconst 1, 1) := by decide +kernel
theorem dL_law_465 : decode cL_law 465 = .ok (.iadd, 1) := by decide +kernel
theorem dL_law_466 : decode cL_law 466 = .ok (.iaload, 1) := by decide +kernel
theorem dL_law_467 : decode cL_law 467 = .ok (.invokevirtual 44, 3) := by decide +kernel
theorem dL_law_470 : decode cL_law 470 = .ok (.aload_n 2, 1) := by decide +kernel
theorem dL_law_471 : decode cL_law 471 = .ok (.aload_n 0, 1) := by decide +kernel
theorem dL_law_472 : decode cL_law 472 = .ok (.iload_n 3, 1) := by decide +kernel
theorem dL_law_473 : decode cL_law 473 = .ok (.iconst 1, 1) := by decide +kernel
theorem dL_law_474 : decode cL_law 474 = .ok (.iadd, 1) := by decide +kernel
theorem dL_law_475 : decode cL_law 475 = .ok (.iaload, 1) := by decide +kernel
theorem dL_law_476 : decode cL_law 476 = .ok (.invokevirtual 48, 3) := by decide +kernel
theorem dL_law_479 : decode cL_law 479 = .ok (.if_icmp .eq 872, 3) := by decide +kernel
theorem dL_law_482 : decode cL_law 482 = .ok (.iconst 0, 1) := by decide +kernel
theorem dL_law_483 : decode cL_law 483 = .ok (.ireturn, 1) := by decide +kernel
theorem dL_law_484 : decode cL_law 484 = .ok (.aload_n 1, 1) := by decide +kernel
theorem dL_law_485 : decode cL_law 485 = .ok (.invokevirtual 49, 3) := by decide +kernel
theorem dL_law_488 : decode cL_law 488 = .ok (.aload_n 2, 1) := by decide +kernel
theorem dL_law_489 : decode cL_law 489 = .ok (.invokevirtual 53, 3) := by decide +kernel
theorem dL_law_492 : decode cL_law 492 = .ok (.if_icmp .eq 859, 3) := by decide +kernel
theorem dL_law_495 : decode cL_law 495 = .ok (.iconst 0, 1) := by decide +kernel
theorem dL_law_496 : decode cL_law 496 = .ok (.ireturn, 1) := by decide +kernel
theorem dL_law_497 : decode cL_law 497 = .ok (.aload_n 1, 1) := by decide +kernel
theorem dL_law_498 : decode cL_law 498 = .ok (.aload_n 0, 1) := by decide +kernel
theorem dL_law_499 : decode cL_law 499 = .ok (.iload_n 3, 1) := by decide +kernel
theorem dL_law_500 : decode cL_law 500 = .ok (.iconst 1, 1) := by decide +kernel
theorem dL_law_501 : decode cL_law 501 = .ok (.iadd, 1) := by decide +kernel
theorem dL_law_502 : decode cL_law 502 = .ok (.iaload, 1) := by decide +kernel
theorem dL_law_503 : decode cL_law 503 = .ok (.invokevirtual 54, 3) := by decide +kernel
theorem dL_law_506 : decode cL_law 506 = .ok (.aload_n 2, 1) := by decide +kernel
theorem dL_law_507 : decode cL_law 507 = .ok (.aload_n 0, 1) := by decide +kernel
theorem dL_law_508 : decode cL_law 508 = .ok (.iload_n 3, 1) := by decide +kernel
theorem dL_law_509 : decode cL_law 509 = .ok (.iconst 1, 1) := by decide +kernel
theorem dL_law_510 : decode cL_law 510 = .ok (.iadd, 1) := by decide +kernel
theorem dL_law_511 : decode cL_law 511 = .ok (.iaload, 1) := by decide +kernel
theorem dL_law_512 : decode cL_law 512 = .ok (.invokevirtual 57, 3) := by decide +kernel
theorem dL_law_515 : decode cL_law 515 = .ok (.if_icmp .eq 836, 3) := by decide +kernel
theorem dL_law_518 : decode cL_law 518 = .ok (.iconst 0, 1) := by decide +kernel
theorem dL_law_519 : decode cL_law 519 = .ok (.ireturn, 1) := by decide +kernel
theorem dL_law_520 : decode cL_law 520 = .ok (.aload_n 1, 1) := by decide +kernel
theorem dL_law_521 : decode cL_law 521 = .ok (.aload_n 0, 1) := by decide +kernel
theorem dL_law_522 : decode cL_law 522 = .ok (.iload_n 3, 1) := by decide +kernel
theorem dL_law_523 : decode cL_law 523 = .ok (.iconst 1, 1) := by decide +kernel
theorem dL_law_524 : decode cL_law 524 = .ok (.iadd, 1) := by decide +kernel
theorem dL_law_525 : decode cL_law 525 = .ok (.iaload, 1) := by decide +kernel
theorem dL_law_526 : decode cL_law 526 = .ok (.invokevirtual 58, 3) := by decide +kernel
theorem dL_law_529 : decode cL_law 529 = .ok (.aload_n 2, 1) := by decide +kernel
theorem dL_law_530 : decode cL_law 530 = .ok (.aload_n 0, 1) := by decide +kernel
theorem dL_law_531 : decode cL_law 531 = .ok (.iload_n 3, 1) := by decide +kernel
theorem dL_law_532 : decode cL_law 532 = .ok (.iconst 1, 1) := by decide +kernel
theorem dL_law_533 : decode cL_law 533 = .ok (.iadd, 1) := by decide +kernel
theorem dL_law_534 : decode cL_law 534 = .ok (.iaload, 1) := by decide +kernel
theorem dL_law_535 : decode cL_law 535 = .ok (.invokevirtual 61, 3) := by decide +kernel
theorem dL_law_538 : decode cL_law 538 = .ok (.if_icmp .eq 813, 3) := by decide +kernel
theorem dL_law_541 : decode cL_law 541 = .ok (.iconst 0, 1) := by decide +kernel
theorem dL_law_542 : decode cL_law 542 = .ok (.ireturn, 1) := by decide +kernel
theorem dL_law_543 : decode cL_law 543 = .ok (.aload_n 1, 1) := by decide +kernel
theorem dL_law_544 : decode cL_law 544 = .ok (.aload_n 0, 1) := by decide +kernel
theorem dL_law_545 : decode cL_law 545 = .ok (.iload_n 3, 1) := by decide +kernel
theorem dL_law_546 : decode cL_law 546 = .ok (.iconst 1, 1) := by decide +kernel
theorem dL_law_547 : decode cL_law 547 = .ok (.iadd, 1) := by decide +kernel
theorem dL_law_548 : decode cL_law 548 = .ok (.iaload, 1) := by decide +kernel
theorem dL_law_549 : decode cL_law 549 = .ok (.aload_n 0, 1) := by decide +kernel
theorem dL_law_550 : decode cL_law 550 = .ok (.iload_n 3, 1) := by decide +kernel
theorem dL_law_551 : decode cL_law 551 = .ok (.iconst 2, 1) := by decide +kernel
theorem dL_law_552 : decode cL_law 552 = .ok (.iadd, 1) := by decide +kernel
theorem dL_law_553 : decode cL_law 553 = .ok (.iaload, 1) := by decide +kernel
theorem dL_law_554 : decode cL_law 554 = .ok (.invokevirtual 62, 3) := by decide +kernel
theorem dL_law_557 : decode cL_law 557 = .ok (.aload_n 2, 1) := by decide +kernel
theorem dL_law_558 : decode cL_law 558 = .ok (.aload_n 0, 1) := by decide +kernel
theorem dL_law_559 : decode cL_law 559 = .ok (.iload_n 3, 1) := by decide +kernel
theorem dL_law_560 : decode cL_law 560 = .ok (.iconst 1, 1) := by decide +kernel
theorem dL_law_561 : decode cL_law 561 = .ok (.iadd, 1) := by decide +kernel
theorem dL_law_562 : decode cL_law 562 = .ok (.iaload, 1) := by decide +kernel
theorem dL_law_563 : decode cL_law 563 = .ok (.aload_n 0, 1) := by decide +kernel
theorem dL_law_564 : decode cL_law 564 = .ok (.iload_n 3, 1) := by decide +kernel
theorem dL_law_565 : decode cL_law 565 = .ok (.iconst 2, 1) := by decide +kernel
theorem dL_law_566 : decode cL_law 566 = .ok (.iadd, 1) := by decide +kernel
theorem dL_law_567 : decode cL_law 567 = .ok (.iaload, 1) := by decide +kernel
theorem dL_law_568 : decode cL_law 568 = .ok (.invokevirtual 65, 3) := by decide +kernel
theorem dL_law_571 : decode cL_law 571 = .ok (.if_icmp .eq 780, 3) := by decide +kernel
theorem dL_law_574 : decode cL_law 574 = .ok (.iconst 0, 1) := by decide +kernel
theorem dL_law_575 : decode cL_law 575 = .ok (.ireturn, 1) := by decide +kernel
theorem dL_law_576 : decode cL_law 576 = .ok (.aload_n 1, 1) := by decide +kernel
theorem dL_law_577 : decode cL_law 577 = .ok (.aload_n 0, 1) := by decide +kernel
theorem dL_law_578 : decode cL_law 578 = .ok (.iload_n 3, 1) := by decide +kernel
theorem dL_law_579 : decode cL_law 579 = .ok (.iconst 1, 1) := by decide +kernel
theorem dL_law_580 : decode cL_law 580 = .ok (.iadd, 1) := by decide +kernel
theorem dL_law_581 : decode cL_law 581 = .ok (.iaload, 1) := by decide +kernel
theorem dL_law_582 : decode cL_law 582 = .ok (.aload_n 0, 1) := by decide +kernel
theorem dL_law_583 : decode cL_law 583 = .ok (.iload_n 3, 1) := by decide +kernel
theorem dL_law_584 : decode cL_law 584 = .ok (.iconst 2, 1) := by decide +kernel
theorem dL_law_585 : decode cL_law 585 = .ok (.iadd, 1) := by decide +kernel
theorem dL_law_586 : decode cL_law 586 = .ok (.iaload, 1) := by decide +kernel
theorem dL_law_587 : decode cL_law 587 = .ok (.invokevirtual 66, 3) := by decide +kernel
theorem dL_law_590 : decode cL_law 590 = .ok (.aload_n 2, 1) := by decide +kernel
theorem dL_law_591 : decode cL_law 591 = .ok (.aload_n 0, 1) := by decide +kernel
theorem dL_law_592 : decode cL_law 592 = .ok (.iload_n 3, 1) := by decide +kernel
theorem dL_law_593 : decode cL_law 593 = .ok (.iconst 1, 1) := by decide +kernel
theorem dL_law_594 : decode cL_law 594 = .ok (.iadd, 1) := by decide +kernel
theorem dL_law_595 : decode cL_law 595 = .ok (.iaload, 1) := by decide +kernel
theorem dL_law_596 : decode cL_law 596 = .ok (.aload_n 0, 1) := by decide +kernel
theorem dL_law_597 : decode cL_law 597 = .ok (.iload_n 3, 1) := by decide +kernel
theorem dL_law_598 : decode cL_law 598 = .ok (.iconst 2, 1) := by decide +kernel
theorem dL_law_599 : decode cL_law 599 = .ok (.iadd, 1) := by decide +kernel
theorem dL_law_600 : decode cL_law 600 = .ok (.iaload, 1) := by decide +kernel
theorem dL_law_601 : decode cL_law 601 = .ok (.invokevirtual 69, 3) := by decide +kernel
theorem dL_law_604 : decode cL_law 604 = .ok (.if_icmp .eq 747, 3) := by decide +kernel
theorem dL_law_607 : decode cL_law 607 = .ok (.iconst 0, 1) := by decide +kernel
theorem dL_law_608 : decode cL_law 608 = .ok (.ireturn, 1) := by decide +kernel
theorem dL_law_609 : decode cL_law 609 = .ok (.aload_n 1, 1) := by decide +kernel
theorem dL_law_610 : decode cL_law 610 = .ok (.aload_n 0, 1) := by decide +kernel
theorem dL_law_611 : decode cL_law 611 = .ok (.iload_n 3, 1) := by decide +kernel
theorem dL_law_612 : decode cL_law 612 = .ok (.iconst 1, 1) := by decide +kernel
theorem dL_law_613 : decode cL_law 613 = .ok (.iadd, 1) := by decide +kernel
theorem dL_law_614 : decode cL_law 614 = .ok (.iaload, 1) := by decide +kernel
theorem dL_law_615 : decode cL_law 615 = .ok (.aload_n 0, 1) := by decide +kernel
theorem dL_law_616 : decode cL_law 616 = .ok (.iload_n 3, 1) := by decide +kernel
theorem dL_law_617 : decode cL_law 617 = .ok (.iconst 2, 1) := by decide +kernel
theorem dL_law_618 : decode cL_law 618 = .ok (.iadd, 1) := by decide +kernel
theorem dL_law_619 : decode cL_law 619 = .ok (.iaload, 1) := by decide +kernel
theorem dL_law_620 : decode cL_law 620 = .ok (.aload_n 0, 1) := by decide +kernel
theorem dL_law_621 : decode cL_law 621 = .ok (.iload_n 3, 1) := by decide +kernel
theorem dL_law_622 : decode cL_law 622 = .ok (.iconst 3, 1) := by decide +kernel
theorem dL_law_623 : decode cL_law 623 = .ok (.iadd, 1) := by decide +kernel
theorem dL_law_624 : decode cL_law 624 = .ok (.iaload, 1) := by decide +kernel
theorem dL_law_625 : decode cL_law 625 = .ok (.invokevirtual 70, 3) := by decide +kernel
theorem dL_law_628 : decode cL_law 628 = .ok (.aload_n 2, 1) := by decide +kernel
theorem dL_law_629 : decode cL_law 629 = .ok (.aload_n 0, 1) := by decide +kernel
theorem dL_law_630 : decode cL_law 630 = .ok (.iload_n 3, 1) := by decide +kernel
theorem dL_law_631 : decode cL_law 631 = .ok (.iconst 1, 1) := by decide +kernel
theorem dL_law_632 : decode cL_law 632 = .ok (.iadd, 1) := by decide +kernel
theorem dL_law_633 : decode cL_law 633 = .ok (.iaload, 1) := by decide +kernel
theorem dL_law_634 : decode cL_law 634 = .ok (.aload_n 0, 1) := by decide +kernel
theorem dL_law_635 : decode cL_law 635 = .ok (.iload_n 3, 1) := by decide +kernel
theorem dL_law_636 : decode cL_law 636 = .ok (.iconst 2, 1) := by decide +kernel
theorem dL_law_637 : decode cL_law 637 = .ok (.iadd, 1) := by decide +kernel
theorem dL_law_638 : decode cL_law 638 = .ok (.iaload, 1) := by decide +kernel
theorem dL_law_639 : decode cL_law 639 = .ok (.aload_n 0, 1) := by decide +kernel
theorem dL_law_640 : decode cL_law 640 = .ok (.iload_n 3, 1) := by decide +kernel
theorem dL_law_641 : decode cL_law 641 = .ok (.iconst 3, 1) := by decide +kernel
theorem dL_law_642 : decode cL_law 642 = .ok (.iadd, 1) := by decide +kernel
theorem dL_law_643 : decode cL_law 643 = .ok (.iaload, 1) := by decide +kernel
theorem dL_law_644 : decode cL_law 644 = .ok (.invokevirtual 73, 3) := by decide +kernel
theorem dL_law_647 : decode cL_law 647 = .ok (.if_icmp .eq 704, 3) := by decide +kernel
theorem dL_law_650 : decode cL_law 650 = .ok (.iconst 0, 1) := by decide +kernel
theorem dL_law_651 : decode cL_law 651 = .ok (.ireturn, 1) := by decide +kernel
theorem dL_law_652 : decode cL_law 652 = .ok (.aload_n 1, 1) := by decide +kernel
theorem dL_law_653 : decode cL_law 653 = .ok (.aload_n 0, 1) := by decide +kernel
theorem dL_law_654 : decode cL_law 654 = .ok (.iload_n 3, 1) := by decide +kernel
theorem dL_law_655 : decode cL_law 655 = .ok (.iconst 1, 1) := by decide +kernel
theorem dL_law_656 : decode cL_law 656 = .ok (.iadd, 1) := by decide +kernel
theorem dL_law_657 : decode cL_law 657 = .ok (.iaload, 1) := by decide +kernel
theorem dL_law_658 : decode cL_law 658 = .ok (.aload_n 0, 1) := by decide +kernel
theorem dL_law_659 : decode cL_law 659 = .ok (.iload_n 3, 1) := by decide +kernel
theorem dL_law_660 : decode cL_law 660 = .ok (.iconst 2, 1) := by decide +kernel
theorem dL_law_661 : decode cL_law 661 = .ok (.iadd, 1) := by decide +kernel
theorem dL_law_662 : decode cL_law 662 = .ok (.iaload, 1) := by decide +kernel
theorem dL_law_663 : decode cL_law 663 = .ok (.aload_n 0, 1) := by decide +kernel
theorem dL_law_664 : decode cL_law 664 = .ok (.iload_n 3, 1) := by decide +kernel
theorem dL_law_665 : decode cL_law 665 = .ok (.iconst 3, 1) := by decide +kernel
theorem dL_law_666 : decode cL_law 666 = .ok (.iadd, 1) := by decide +kernel
theorem dL_law_667 : decode cL_law 667 = .ok (.iaload, 1) := by decide +kernel
theorem dL_law_668 : decode cL_law 668 = .ok (.aload_n 0, 1) := by decide +kernel
theorem dL_law_669 : decode cL_law 669 = .ok (.iload_n 3, 1) := by decide +kernel
theorem dL_law_670 : decode cL_law 670 = .ok (.iconst 4, 1) := by decide +kernel
theorem dL_law_671 : decode cL_law 671 = .ok (.iadd, 1) := by decide +kernel
theorem dL_law_672 : decode cL_law 672 = .ok (.iaload, 1) := by decide +kernel
theorem dL_law_673 : decode cL_law 673 = .ok (.ifCond .eq 7, 3) := by decide +kernel
theorem dL_law_676 : decode cL_law 676 = .ok (.iconst 1, 1) := by decide +kernel
theorem dL_law_677 : decode cL_law 677 = .ok (.goto 4, 3) := by decide +kernel
theorem dL_law_680 : decode cL_law 680 = .ok (.iconst 0, 1) := by decide +kernel
theorem dL_law_681 : decode cL_law 681 = .ok (.invokevirtual 74, 3) := by decide +kernel
theorem dL_law_684 : decode cL_law 684 = .ok (.aload_n 2, 1) := by decide +kernel
theorem dL_law_685 : decode cL_law 685 = .ok (.aload_n 0, 1) := by decide +kernel
theorem dL_law_686 : decode cL_law 686 = .ok (.iload_n 3, 1) := by decide +kernel
theorem dL_law_687 : decode cL_law 687 = .ok (.iconst 1, 1) := by decide +kernel
theorem dL_law_688 : decode cL_law 688 = .ok (.iadd, 1) := by decide +kernel
theorem dL_law_689 : decode cL_law 689 = .ok (.iaload, 1) := by decide +kernel
theorem dL_law_690 : decode cL_law 690 = .ok (.aload_n 0, 1) := by decide +kernel
theorem dL_law_691 : decode cL_law 691 = .ok (.iload_n 3, 1) := by decide +kernel
theorem dL_law_692 : decode cL_law 692 = .ok (.iconst 2, 1) := by decide +kernel
theorem dL_law_693 : decode cL_law 693 = .ok (.iadd, 1) := by decide +kernel
theorem dL_law_694 : decode cL_law 694 = .ok (.iaload, 1) := by decide +kernel
theorem dL_law_695 : decode cL_law 695 = .ok (.aload_n 0, 1) := by decide +kernel
theorem dL_law_696 : decode cL_law 696 = .ok (.iload_n 3, 1) := by decide +kernel
theorem dL_law_697 : decode cL_law 697 = .ok (.iconst 3, 1) := by decide +kernel
theorem dL_law_698 : decode cL_law 698 = .ok (.iadd, 1) := by decide +kernel
theorem dL_law_699 : decode cL_law 699 = .ok (.iaload, 1) := by decide +kernel
theorem dL_law_700 : decode cL_law 700 = .ok (.aload_n 0, 1) := by decide +kernel
theorem dL_law_701 : decode cL_law 701 = .ok (.iload_n 3, 1) := by decide +kernel
theorem dL_law_702 : decode cL_law 702 = .ok (.iconst 4, 1) := by decide +kernel
theorem dL_law_703 : decode cL_law 703 = .ok (.iadd, 1) := by decide +kernel
theorem dL_law_704 : decode cL_law 704 = .ok (.iaload, 1) := by decide +kernel
theorem dL_law_705 : decode cL_law 705 = .ok (.ifCond .eq 7, 3) := by decide +kernel
theorem dL_law_708 : decode cL_law 708 = .ok (.iconst 1, 1) := by decide +kernel
theorem dL_law_709 : decode cL_law 709 = .ok (.goto 4, 3) := by decide +kernel
theorem dL_law_712 : decode cL_law 712 = .ok (.iconst 0, 1) := by decide +kernel
theorem dL_law_713 : decode cL_law 713 = .ok (.invokevirtual 78, 3) := by decide +kernel
theorem dL_law_716 : decode cL_law 716 = .ok (.if_icmp .eq 635, 3) := by decide +kernel
theorem dL_law_719 : decode cL_law 719 = .ok (.iconst 0, 1) := by decide +kernel
theorem dL_law_720 : decode cL_law 720 = .ok (.ireturn, 1) := by decide +kernel
theorem dL_law_721 : decode cL_law 721 = .ok (.aload_n 1, 1) := by decide +kernel
theorem dL_law_722 : decode cL_law 722 = .ok (.aload_n 0, 1) := by decide +kernel
theorem dL_law_723 : decode cL_law 723 = .ok (.iload_n 3, 1) := by decide +kernel
theorem dL_law_724 : decode cL_law 724 = .ok (.iconst 1, 1) := by decide +kernel
theorem dL_law_725 : decode cL_law 725 = .ok (.iadd, 1) := by decide +kernel
theorem dL_law_726 : decode cL_law 726 = .ok (.iaload, 1) := by decide +kernel
theorem dL_law_727 : decode cL_law 727 = .ok (.aload_n 0, 1) := by decide +kernel
theorem dL_law_728 : decode cL_law 728 = .ok (.iload_n 3, 1) := by decide +kernel
theorem dL_law_729 : decode cL_law 729 = .ok (.iconst 2, 1) := by decide +kernel
theorem dL_law_730 : decode cL_law 730 = .ok (.iadd, 1) := by decide +kernel
theorem dL_law_731 : decode cL_law 731 = .ok (.iaload, 1) := by decide +kernel
theorem dL_law_732 : decode cL_law 732 = .ok (.invokevirtual 79, 3) := by decide +kernel
theorem dL_law_735 : decode cL_law 735 = .ok (.aload_n 2, 1) := by decide +kernel
theorem dL_law_736 : decode cL_law 736 = .ok (.aload_n 0, 1) := by decide +kernel
theorem dL_law_737 : decode cL_law 737 = .ok (.iload_n 3, 1) := by decide +kernel
theorem dL_law_738 : decode cL_law 738 = .ok (.iconst 1, 1) := by decide +kernel
theorem dL_law_739 : decode cL_law 739 = .ok (.iadd, 1) := by decide +kernel
theorem dL_law_740 : decode cL_law 740 = .ok (.iaload, 1) := by decide +kernel
theorem dL_law_741 : decode cL_law 741 = .ok (.aload_n 0, 1) := by decide +kernel
theorem dL_law_742 : decode cL_law 742 = .ok (.iload_n 3, 1) := by decide +kernel
theorem dL_law_743 : decode cL_law 743 = .ok (.iconst 2, 1) := by decide +kernel
theorem dL_law_744 : decode cL_law 744 = .ok (.iadd, 1) := by decide +kernel
theorem dL_law_745 : decode cL_law 745 = .ok (.iaload, 1) := by decide +kernel
theorem dL_law_746 : decode cL_law 746 = .ok (.invokevirtual 82, 3) := by decide +kernel
theorem dL_law_749 : decode cL_law 749 = .ok (.if_icmp .eq 602, 3) := by decide +kernel
theorem dL_law_752 : decode cL_law 752 = .ok (.iconst 0, 1) := by decide +kernel
theorem dL_law_753 : decode cL_law 753 = .ok (.ireturn, 1) := by decide +kernel
theorem dL_law_754 : decode cL_law 754 = .ok (.aload_n 1, 1) := by decide +kernel
theorem dL_law_755 : decode cL_law 755 = .ok (.aload_n 0, 1) := by decide +kernel
theorem dL_law_756 : decode cL_law 756 = .ok (.iload_n 3, 1) := by decide +kernel
theorem dL_law_757 : decode cL_law 757 = .ok (.iconst 1, 1) := by decide +kernel
theorem dL_law_758 : decode cL_law 758 = .ok (.iadd, 1) := by decide +kernel
theorem dL_law_759 : decode cL_law 759 = .ok (.iaload, 1) := by decide +kernel
theorem dL_law_760 : decode cL_law 760 = .ok (.aload_n 0, 1) := by decide +kernel
theorem dL_law_761 : decode cL_law 761 = .ok (.iload_n 3, 1) := by decide +kernel
theorem dL_law_762 : decode cL_law 762 = .ok (.iconst 2, 1) := by decide +kernel
theorem dL_law_763 : decode cL_law 763 = .ok (.iadd, 1) := by decide +kernel
theorem dL_law_764 : decode cL_law 764 = .ok (.iaload, 1) := by decide +kernel
theorem dL_law_765 : decode cL_law 765 = .ok (.invokevirtual 83, 3) := by decide +kernel
theorem dL_law_768 : decode cL_law 768 = .ok (.aload_n 2, 1) := by decide +kernel
theorem dL_law_769 : decode cL_law 769 = .ok (.aload_n 0, 1) := by decide +kernel
theorem dL_law_770 : decode cL_law 770 = .ok (.iload_n 3, 1) := by decide +kernel
theorem dL_law_771 : decode cL_law 771 = .ok (.iconst 1, 1) := by decide +kernel
theorem dL_law_772 : decode cL_law 772 = .ok (.iadd, 1) := by decide +kernel
theorem dL_law_773 : decode cL_law 773 = .ok (.iaload, 1) := by decide +kernel
theorem dL_law_774 : decode cL_law 774 = .ok (.aload_n 0, 1) := by decide +kernel
theorem dL_law_775 : decode cL_law 775 = .ok (.iload_n 3, 1) := by decide +kernel
theorem dL_law_776 : decode cL_law 776 = .ok (.iconst 2, 1) := by decide +kernel
theorem dL_law_777 : decode cL_law 777 = .ok (.iadd, 1) := by decide +kernel
theorem dL_law_778 : decode cL_law 778 = .ok (.iaload, 1) := by decide +kernel
theorem dL_law_779 : decode cL_law 779 = .ok (.invokevirtual 86, 3) := by decide +kernel
theorem dL_law_782 : decode cL_law 782 = .ok (.if_icmp .eq 569, 3) := by decide +kernel
theorem dL_law_785 : decode cL_law 785 = .ok (.iconst 0, 1) := by decide +kernel
theorem dL_law_786 : decode cL_law 786 = .ok (.ireturn, 1) := by decide +kernel
theorem dL_law_787 : decode cL_law 787 = .ok (.aload_n 1, 1) := by decide +kernel
theorem dL_law_788 : decode cL_law 788 = .ok (.aload_n 0, 1) := by decide +kernel
theorem dL_law_789 : decode cL_law 789 = .ok (.iload_n 3, 1) := by decide +kernel
theorem dL_law_790 : decode cL_law 790 = .ok (.iconst 1, 1) := by decide +kernel
theorem dL_law_791 : decode cL_law 791 = .ok (.iadd, 1) := by decide +kernel
theorem dL_law_792 : decode cL_law 792 = .ok (.iaload, 1) := by decide +kernel
theorem dL_law_793 : decode cL_law 793 = .ok (.aload_n 0, 1) := by decide +kernel
theorem dL_law_794 : decode cL_law 794 = .ok (.iload_n 3, 1) := by decide +kernel
theorem dL_law_795 : decode cL_law 795 = .ok (.iconst 2, 1) := by decide +kernel
theorem dL_law_796 : decode cL_law 796 = .ok (.iadd, 1) := by decide +kernel
theorem dL_law_797 : decode cL_law 797 = .ok (.iaload, 1) := by decide +kernel
theorem dL_law_798 : decode cL_law 798 = .ok (.invokevirtual 87, 3) := by decide +kernel
theorem dL_law_801 : decode cL_law 801 = .ok (.aload_n 2, 1) := by decide +kernel
theorem dL_law_802 : decode cL_law 802 = .ok (.aload_n 0, 1) := by decide +kernel
theorem dL_law_803 : decode cL_law 803 = .ok (.iload_n 3, 1) := by decide +kernel
theorem dL_law_804 : decode cL_law 804 = .ok (.iconst 1, 1) := by decide +kernel
theorem dL_law_805 : decode cL_law 805 = .ok (.iadd, 1) := by decide +kernel
theorem dL_law_806 : decode cL_law 806 = .ok (.iaload, 1) := by decide +kernel
theorem dL_law_807 : decode cL_law 807 = .ok (.aload_n 0, 1) := by decide +kernel
theorem dL_law_808 : decode cL_law 808 = .ok (.iload_n 3, 1) := by decide +kernel
theorem dL_law_809 : decode cL_law 809 = .ok (.iconst 2, 1) := by decide +kernel
theorem dL_law_810 : decode cL_law 810 = .ok (.iadd, 1) := by decide +kernel
theorem dL_law_811 : decode cL_law 811 = .ok (.iaload, 1) := by decide +kernel
theorem dL_law_812 : decode cL_law 812 = .ok (.invokevirtual 91, 3) := by decide +kernel
theorem dL_law_815 : decode cL_law 815 = .ok (.lcmp, 1) := by decide +kernel
theorem dL_law_816 : decode cL_law 816 = .ok (.ifCond .eq 535, 3) := by decide +kernel
theorem dL_law_819 : decode cL_law 819 = .ok (.iconst 0, 1) := by decide +kernel
theorem dL_law_820 : decode cL_law 820 = .ok (.ireturn, 1) := by decide +kernel
theorem dL_law_821 : decode cL_law 821 = .ok (.aload_n 1, 1) := by decide +kernel
theorem dL_law_822 : decode cL_law 822 = .ok (.aload_n 0, 1) := by decide +kernel
theorem dL_law_823 : decode cL_law 823 = .ok (.iload_n 3, 1) := by decide +kernel
theorem dL_law_824 : decode cL_law 824 = .ok (.iconst 1, 1) := by decide +kernel
theorem dL_law_825 : decode cL_law 825 = .ok (.iadd, 1) := by decide +kernel
theorem dL_law_826 : decode cL_law 826 = .ok (.iaload, 1) := by decide +kernel
theorem dL_law_827 : decode cL_law 827 = .ok (.aload_n 0, 1) := by decide +kernel
theorem dL_law_828 : decode cL_law 828 = .ok (.iload_n 3, 1) := by decide +kernel
theorem dL_law_829 : decode cL_law 829 = .ok (.iconst 2, 1) := by decide +kernel
theorem dL_law_830 : decode cL_law 830 = .ok (.iadd, 1) := by decide +kernel
theorem dL_law_831 : decode cL_law 831 = .ok (.iaload, 1) := by decide +kernel
theorem dL_law_832 : decode cL_law 832 = .ok (.invokevirtual 92, 3) := by decide +kernel
theorem dL_law_835 : decode cL_law 835 = .ok (.aload_n 2, 1) := by decide +kernel
theorem dL_law_836 : decode cL_law 836 = .ok (.aload_n 0, 1) := by decide +kernel
theorem dL_law_837 : decode cL_law 837 = .ok (.iload_n 3, 1) := by decide +kernel
theorem dL_law_838 : decode cL_law 838 = .ok (.iconst 1, 1) := by decide +kernel
theorem dL_law_839 : decode cL_law 839 = .ok (.iadd, 1) := by decide +kernel
theorem dL_law_840 : decode cL_law 840 = .ok (.iaload, 1) := by decide +kernel
theorem dL_law_841 : decode cL_law 841 = .ok (.aload_n 0, 1) := by decide +kernel
theorem dL_law_842 : decode cL_law 842 = .ok (.iload_n 3, 1) := by decide +kernel
theorem dL_law_843 : decode cL_law 843 = .ok (.iconst 2, 1) := by decide +kernel
theorem dL_law_844 : decode cL_law 844 = .ok (.iadd, 1) := by decide +kernel
theorem dL_law_845 : decode cL_law 845 = .ok (.iaload, 1) := by decide +kernel
theorem dL_law_846 : decode cL_law 846 = .ok (.invokevirtual 95, 3) := by decide +kernel
theorem dL_law_849 : decode cL_law 849 = .ok (.lcmp, 1) := by decide +kernel
theorem dL_law_850 : decode cL_law 850 = .ok (.ifCond .eq 501, 3) := by decide +kernel
theorem dL_law_853 : decode cL_law 853 = .ok (.iconst 0, 1) := by decide +kernel
theorem dL_law_854 : decode cL_law 854 = .ok (.ireturn, 1) := by decide +kernel
theorem dL_law_855 : decode cL_law 855 = .ok (.aload_n 1, 1) := by decide +kernel
theorem dL_law_856 : decode cL_law 856 = .ok (.aload_n 0, 1) := by decide +kernel
theorem dL_law_857 : decode cL_law 857 = .ok (.iload_n 3, 1) := by decide +kernel
theorem dL_law_858 : decode cL_law 858 = .ok (.iconst 1, 1) := by decide +kernel
theorem dL_law_859 : decode cL_law 859 = .ok (.iadd, 1) := by decide +kernel
theorem dL_law_860 : decode cL_law 860 = .ok (.iaload, 1) := by decide +kernel
theorem dL_law_861 : decode cL_law 861 = .ok (.aload_n 0, 1) := by decide +kernel
theorem dL_law_862 : decode cL_law 862 = .ok (.iload_n 3, 1) := by decide +kernel
theorem dL_law_863 : decode cL_law 863 = .ok (.iconst 2, 1) := by decide +kernel
theorem dL_law_864 : decode cL_law 864 = .ok (.iadd, 1) := by decide +kernel
theorem dL_law_865 : decode cL_law 865 = .ok (.iaload, 1) := by decide +kernel
theorem dL_law_866 : decode cL_law 866 = .ok (.invokevirtual 96, 3) := by decide +kernel
theorem dL_law_869 : decode cL_law 869 = .ok (.aload_n 2, 1) := by decide +kernel
theorem dL_law_870 : decode cL_law 870 = .ok (.aload_n 0, 1) := by decide +kernel
theorem dL_law_871 : decode cL_law 871 = .ok (.iload_n 3, 1) := by decide +kernel
theorem dL_law_872 : decode cL_law 872 = .ok (.iconst 1, 1) := by decide +kernel
theorem dL_law_873 : decode cL_law 873 = .ok (.iadd, 1) := by decide +kernel
theorem dL_law_874 : decode cL_law 874 = .ok (.iaload, 1) := by decide +kernel
theorem dL_law_875 : decode cL_law 875 = .ok (.aload_n 0, 1) := by decide +kernel
theorem dL_law_876 : decode cL_law 876 = .ok (.iload_n 3, 1) := by decide +kernel
theorem dL_law_877 : decode cL_law 877 = .ok (.iconst 2, 1) := by decide +kernel
theorem dL_law_878 : decode cL_law 878 = .ok (.iadd, 1) := by decide +kernel
theorem dL_law_879 : decode cL_law 879 = .ok (.iaload, 1) := by decide +kernel
theorem dL_law_880 : decode cL_law 880 = .ok (.invokevirtual 99, 3) := by decide +kernel
theorem dL_law_883 : decode cL_law 883 = .ok (.if_icmp .eq 468, 3) := by decide +kernel
theorem dL_law_886 : decode cL_law 886 = .ok (.iconst 0, 1) := by decide +kernel
theorem dL_law_887 : decode cL_law 887 = .ok (.ireturn, 1) := by decide +kernel
theorem dL_law_888 : decode cL_law 888 = .ok (.aload_n 1, 1) := by decide +kernel
theorem dL_law_889 : decode cL_law 889 = .ok (.aload_n 0, 1) := by decide +kernel
theorem dL_law_890 : decode cL_law 890 = .ok (.iload_n 3, 1) := by decide +kernel
theorem dL_law_891 : decode cL_law 891 = .ok (.iconst 1, 1) := by decide +kernel
theorem dL_law_892 : decode cL_law 892 = .ok (.iadd, 1) := by decide +kernel
theorem dL_law_893 : decode cL_law 893 = .ok (.iaload, 1) := by decide +kernel
theorem dL_law_894 : decode cL_law 894 = .ok (.invokevirtual 100, 3) := by decide +kernel
theorem dL_law_897 : decode cL_law 897 = .ok (.aload_n 2, 1) := by decide +kernel
theorem dL_law_898 : decode cL_law 898 = .ok (.aload_n 0, 1) := by decide +kernel
theorem dL_law_899 : decode cL_law 899 = .ok (.iload_n 3, 1) := by decide +kernel
theorem dL_law_900 : decode cL_law 900 = .ok (.iconst 1, 1) := by decide +kernel
theorem dL_law_901 : decode cL_law 901 = .ok (.iadd, 1) := by decide +kernel
theorem dL_law_902 : decode cL_law 902 = .ok (.iaload, 1) := by decide +kernel
theorem dL_law_903 : decode cL_law 903 = .ok (.invokevirtual 103, 3) := by decide +kernel
theorem dL_law_906 : decode cL_law 906 = .ok (.if_icmp .eq 445, 3) := by decide +kernel
theorem dL_law_909 : decode cL_law 909 = .ok (.iconst 0, 1) := by decide +kernel
theorem dL_law_910 : decode cL_law 910 = .ok (.ireturn, 1) := by decide +kernel
theorem dL_law_911 : decode cL_law 911 = .ok (.aload_n 1, 1) := by decide +kernel
theorem dL_law_912 : decode cL_law 912 = .ok (.aload_n 0, 1) := by decide +kernel
theorem dL_law_913 : decode cL_law 913 = .ok (.iload_n 3, 1) := by decide +kernel
theorem dL_law_914 : decode cL_law 914 = .ok (.iconst 1, 1) := by decide +kernel
theorem dL_law_915 : decode cL_law 915 = .ok (.iadd, 1) := by decide +kernel
theorem dL_law_916 : decode cL_law 916 = .ok (.iaload, 1) := by decide +kernel
theorem dL_law_917 : decode cL_law 917 = .ok (.aload_n 0, 1) := by decide +kernel
theorem dL_law_918 : decode cL_law 918 = .ok (.iload_n 3, 1) := by decide +kernel
theorem dL_law_919 : decode cL_law 919 = .ok (.iconst 2, 1) := by decide +kernel
theorem dL_law_920 : decode cL_law 920 = .ok (.iadd, 1) := by decide +kernel
theorem dL_law_921 : decode cL_law 921 = .ok (.iaload, 1) := by decide +kernel
theorem dL_law_922 : decode cL_law 922 = .ok (.invokevirtual 104, 3) := by decide +kernel
theorem dL_law_925 : decode cL_law 925 = .ok (.aload_n 2, 1) := by decide +kernel
theorem dL_law_926 : decode cL_law 926 = .ok (.aload_n 0, 1) := by decide +kernel
theorem dL_law_927 : decode cL_law 927 = .ok (.iload_n 3, 1) := by decide +kernel
theorem dL_law_928 : decode cL_law 928 = .ok (.iconst 1, 1) := by decide +kernel
theorem dL_law_929 : decode cL_law 929 = .ok (.iadd, 1) := by decide +kernel
theorem dL_law_930 : decode cL_law 930 = .ok (.iaload, 1) := by decide +kernel
theorem dL_law_931 : decode cL_law 931 = .ok (.aload_n 0, 1) := by decide +kernel
theorem dL_law_932 : decode cL_law 932 = .ok (.iload_n 3, 1) := by decide +kernel
theorem dL_law_933 : decode cL_law 933 = .ok (.iconst 2, 1) := by decide +kernel
theorem dL_law_934 : decode cL_law 934 = .ok (.iadd, 1) := by decide +kernel
theorem dL_law_935 : decode cL_law 935 = .ok (.iaload, 1) := by decide +kernel
theorem dL_law_936 : decode cL_law 936 = .ok (.invokevirtual 107, 3) := by decide +kernel
theorem dL_law_939 : decode cL_law 939 = .ok (.if_icmp .eq 412, 3) := by decide +kernel
theorem dL_law_942 : decode cL_law 942 = .ok (.iconst 0, 1) := by decide +kernel
theorem dL_law_943 : decode cL_law 943 = .ok (.ireturn, 1) := by decide +kernel
theorem dL_law_944 : decode cL_law 944 = .ok (.aload_n 1, 1) := by decide +kernel
theorem dL_law_945 : decode cL_law 945 = .ok (.invokevirtual 108, 3) := by decide +kernel
theorem dL_law_948 : decode cL_law 948 = .ok (.aload_n 2, 1) := by decide +kernel
theorem dL_law_949 : decode cL_law 949 = .ok (.invokevirtual 111, 3) := by decide +kernel
theorem dL_law_952 : decode cL_law 952 = .ok (.if_icmp .eq 399, 3) := by decide +kernel
theorem dL_law_955 : decode cL_law 955 = .ok (.iconst 0, 1) := by decide +kernel
theorem dL_law_956 : decode cL_law 956 = .ok (.ireturn, 1) := by decide +kernel
theorem dL_law_957 : decode cL_law 957 = .ok (.aload_n 1, 1) := by decide +kernel
theorem dL_law_958 : decode cL_law 958 = .ok (.aload_n 0, 1) := by decide +kernel
theorem dL_law_959 : decode cL_law 959 = .ok (.iload_n 3, 1) := by decide +kernel
theorem dL_law_960 : decode cL_law 960 = .ok (.iconst 1, 1) := by decide +kernel
theorem dL_law_961 : decode cL_law 961 = .ok (.iadd, 1) := by decide +kernel
theorem dL_law_962 : decode cL_law 962 = .ok (.iaload, 1) := by decide +kernel
theorem dL_law_963 : decode cL_law 963 = .ok (.aload_n 0, 1) := by decide +kernel
theorem dL_law_964 : decode cL_law 964 = .ok (.iload_n 3, 1) := by decide +kernel
theorem dL_law_965 : decode cL_law 965 = .ok (.iconst 2, 1) := by decide +kernel
theorem dL_law_966 : decode cL_law 966 = .ok (.iadd, 1) := by decide +kernel
theorem dL_law_967 : decode cL_law 967 = .ok (.iaload, 1) := by decide +kernel
theorem dL_law_968 : decode cL_law 968 = .ok (.invokevirtual 112, 3) := by decide +kernel
theorem dL_law_971 : decode cL_law 971 = .ok (.aload_n 2, 1) := by decide +kernel
theorem dL_law_972 : decode cL_law 972 = .ok (.aload_n 0, 1) := by decide +kernel
theorem dL_law_973 : decode cL_law 973 = .ok (.iload_n 3, 1) := by decide +kernel
theorem dL_law_974 : decode cL_law 974 = .ok (.iconst 1, 1) := by decide +kernel
theorem dL_law_975 : decode cL_law 975 = .ok (.iadd, 1) := by decide +kernel
theorem dL_law_976 : decode cL_law 976 = .ok (.iaload, 1) := by decide +kernel
theorem dL_law_977 : decode cL_law 977 = .ok (.aload_n 0, 1) := by decide +kernel
theorem dL_law_978 : decode cL_law 978 = .ok (.iload_n 3, 1) := by decide +kernel
theorem dL_law_979 : decode cL_law 979 = .ok (.iconst 2, 1) := by decide +kernel
theorem dL_law_980 : decode cL_law 980 = .ok (.iadd, 1) := by decide +kernel
theorem dL_law_981 : decode cL_law 981 = .ok (.iaload, 1) := by decide +kernel
theorem dL_law_982 : decode cL_law 982 = .ok (.invokevirtual 115, 3) := by decide +kernel
theorem dL_law_985 : decode cL_law 985 = .ok (.if_icmp .eq 366, 3) := by decide +kernel
theorem dL_law_988 : decode cL_law 988 = .ok (.iconst 0, 1) := by decide +kernel
theorem dL_law_989 : decode cL_law 989 = .ok (.ireturn, 1) := by decide +kernel
theorem dL_law_990 : decode cL_law 990 = .ok (.aload_n 1, 1) := by decide +kernel
theorem dL_law_991 : decode cL_law 991 = .ok (.invokevirtual 116, 3) := by decide +kernel
theorem dL_law_994 : decode cL_law 994 = .ok (.aload_n 2, 1) := by decide +kernel
theorem dL_law_995 : decode cL_law 995 = .ok (.invokevirtual 119, 3) := by decide +kernel
theorem dL_law_998 : decode cL_law 998 = .ok (.if_icmp .eq 353, 3) := by decide +kernel
theorem dL_law_1001 : decode cL_law 1001 = .ok (.iconst 0, 1) := by decide +kernel
theorem dL_law_1002 : decode cL_law 1002 = .ok (.ireturn, 1) := by decide +kernel
theorem dL_law_1003 : decode cL_law 1003 = .ok (.aload_n 1, 1) := by decide +kernel
theorem dL_law_1004 : decode cL_law 1004 = .ok (.invokevirtual 120, 3) := by decide +kernel
theorem dL_law_1007 : decode cL_law 1007 = .ok (.aload_n 2, 1) := by decide +kernel
theorem dL_law_1008 : decode cL_law 1008 = .ok (.invokevirtual 123, 3) := by decide +kernel
theorem dL_law_1011 : decode cL_law 1011 = .ok (.if_icmp .eq 340, 3) := by decide +kernel
theorem dL_law_1014 : decode cL_law 1014 = .ok (.iconst 0, 1) := by decide +kernel
theorem dL_law_1015 : decode cL_law 1015 = .ok (.ireturn, 1) := by decide +kernel
theorem dL_law_1016 : decode cL_law 1016 = .ok (.aload_n 1, 1) := by decide +kernel
theorem dL_law_1017 : decode cL_law 1017 = .ok (.aload_n 0, 1) := by decide +kernel
theorem dL_law_1018 : decode cL_law 1018 = .ok (.iload_n 3, 1) := by decide +kernel
theorem dL_law_1019 : decode cL_law 1019 = .ok (.iconst 1, 1) := by decide +kernel
theorem dL_law_1020 : decode cL_law 1020 = .ok (.iadd, 1) := by decide +kernel
theorem dL_law_1021 : decode cL_law 1021 = .ok (.iaload, 1) := by decide +kernel
theorem dL_law_1022 : decode cL_law 1022 = .ok (.aload_n 0, 1) := by decide +kernel
theorem dL_law_1023 : decode cL_law 1023 = .ok (.iload_n 3, 1) := by decide +kernel
theorem dL_law_1024 : decode cL_law 1024 = .ok (.iconst 2, 1) := by decide +kernel
theorem dL_law_1025 : decode cL_law 1025 = .ok (.iadd, 1) := by decide +kernel
theorem dL_law_1026 : decode cL_law 1026 = .ok (.iaload, 1) := by decide +kernel
theorem dL_law_1027 : decode cL_law 1027 = .ok (.aload_n 0, 1) := by decide +kernel
theorem dL_law_1028 : decode cL_law 1028 = .ok (.iload_n 3, 1) := by decide +kernel
theorem dL_law_1029 : decode cL_law 1029 = .ok (.iconst 3, 1) := by decide +kernel
theorem dL_law_1030 : decode cL_law 1030 = .ok (.iadd, 1) := by decide +kernel
theorem dL_law_1031 : decode cL_law 1031 = .ok (.iaload, 1) := by decide +kernel
theorem dL_law_1032 : decode cL_law 1032 = .ok (.invokevirtual 124, 3) := by decide +kernel
theorem dL_law_1035 : decode cL_law 1035 = .ok (.aload_n 2, 1) := by decide +kernel
theorem dL_law_1036 : decode cL_law 1036 = .ok (.aload_n 0, 1) := by decide +kernel
theorem dL_law_1037 : decode cL_law 1037 = .ok (.iload_n 3, 1) := by decide +kernel
theorem dL_law_1038 : decode cL_law 1038 = .ok (.iconst 1, 1) := by decide +kernel
theorem dL_law_1039 : decode cL_law 1039 = .ok (.iadd, 1) := by decide +kernel
theorem dL_law_1040 : decode cL_law 1040 = .ok (.iaload, 1) := by decide +kernel
theorem dL_law_1041 : decode cL_law 1041 = .ok (.aload_n 0, 1) := by decide +kernel
theorem dL_law_1042 : decode cL_law 1042 = .ok (.iload_n 3, 1) := by decide +kernel
theorem dL_law_1043 : decode cL_law 1043 = .ok (.iconst 2, 1) := by decide +kernel
theorem dL_law_1044 : decode cL_law 1044 = .ok (.iadd, 1) := by decide +kernel
theorem dL_law_1045 : decode cL_law 1045 = .ok (.iaload, 1) := by decide +kernel
theorem dL_law_1046 : decode cL_law 1046 = .ok (.aload_n 0, 1) := by decide +kernel
theorem dL_law_1047 : decode cL_law 1047 = .ok (.iload_n 3, 1) := by decide +kernel
theorem dL_law_1048 : decode cL_law 1048 = .ok (.iconst 3, 1) := by decide +kernel
theorem dL_law_1049 : decode cL_law 1049 = .ok (.iadd, 1) := by decide +kernel
theorem dL_law_1050 : decode cL_law 1050 = .ok (.iaload, 1) := by decide +kernel
theorem dL_law_1051 : decode cL_law 1051 = .ok (.invokevirtual 127, 3) := by decide +kernel
theorem dL_law_1054 : decode cL_law 1054 = .ok (.if_icmp .eq 297, 3) := by decide +kernel
theorem dL_law_1057 : decode cL_law 1057 = .ok (.iconst 0, 1) := by decide +kernel
theorem dL_law_1058 : decode cL_law 1058 = .ok (.ireturn, 1) := by decide +kernel
theorem dL_law_1059 : decode cL_law 1059 = .ok (.aload_n 1, 1) := by decide +kernel
theorem dL_law_1060 : decode cL_law 1060 = .ok (.aload_n 0, 1) := by decide +kernel
theorem dL_law_1061 : decode cL_law 1061 = .ok (.iload_n 3, 1) := by decide +kernel
theorem dL_law_1062 : decode cL_law 1062 = .ok (.iconst 1, 1) := by decide +kernel
theorem dL_law_1063 : decode cL_law 1063 = .ok (.iadd, 1) := by decide +kernel
theorem dL_law_1064 : decode cL_law 1064 = .ok (.iaload, 1) := by decide +kernel
theorem dL_law_1065 : decode cL_law 1065 = .ok (.invokevirtual 128, 3) := by decide +kernel
theorem dL_law_1068 : decode cL_law 1068 = .ok (.aload_n 2, 1) := by decide +kernel
theorem dL_law_1069 : decode cL_law 1069 = .ok (.aload_n 0, 1) := by decide +kernel
theorem dL_law_1070 : decode cL_law 1070 = .ok (.iload_n 3, 1) := by decide +kernel
theorem dL_law_1071 : decode cL_law 1071 = .ok (.iconst 1, 1) := by decide +kernel
theorem dL_law_1072 : decode cL_law 1072 = .ok (.iadd, 1) := by decide +kernel
theorem dL_law_1073 : decode cL_law 1073 = .ok (.iaload, 1) := by decide +kernel
theorem dL_law_1074 : decode cL_law 1074 = .ok (.invokevirtual 131, 3) := by decide +kernel
theorem dL_law_1077 : decode cL_law 1077 = .ok (.if_icmp .eq 274, 3) := by decide +kernel
theorem dL_law_1080 : decode cL_law 1080 = .ok (.iconst 0, 1) := by decide +kernel
theorem dL_law_1081 : decode cL_law 1081 = .ok (.ireturn, 1) := by decide +kernel
theorem dL_law_1082 : decode cL_law 1082 = .ok (.aload_n 1, 1) := by decide +kernel
theorem dL_law_1083 : decode cL_law 1083 = .ok (.aload_n 0, 1) := by decide +kernel
theorem dL_law_1084 : decode cL_law 1084 = .ok (.iload_n 3, 1) := by decide +kernel
theorem dL_law_1085 : decode cL_law 1085 = .ok (.iconst 1, 1) := by decide +kernel
theorem dL_law_1086 : decode cL_law 1086 = .ok (.iadd, 1) := by decide +kernel
theorem dL_law_1087 : decode cL_law 1087 = .ok (.iaload, 1) := by decide +kernel
theorem dL_law_1088 : decode cL_law 1088 = .ok (.aload_n 0, 1) := by decide +kernel
theorem dL_law_1089 : decode cL_law 1089 = .ok (.iload_n 3, 1) := by decide +kernel
theorem dL_law_1090 : decode cL_law 1090 = .ok (.iconst 2, 1) := by decide +kernel
theorem dL_law_1091 : decode cL_law 1091 = .ok (.iadd, 1) := by decide +kernel
theorem dL_law_1092 : decode cL_law 1092 = .ok (.iaload, 1) := by decide +kernel
theorem dL_law_1093 : decode cL_law 1093 = .ok (.invokevirtual 132, 3) := by decide +kernel
theorem dL_law_1096 : decode cL_law 1096 = .ok (.aload_n 2, 1) := by decide +kernel
theorem dL_law_1097 : decode cL_law 1097 = .ok (.aload_n 0, 1) := by decide +kernel
theorem dL_law_1098 : decode cL_law 1098 = .ok (.iload_n 3, 1) := by decide +kernel
theorem dL_law_1099 : decode cL_law 1099 = .ok (.iconst 1, 1) := by decide +kernel
theorem dL_law_1100 : decode cL_law 1100 = .ok (.iadd, 1) := by decide +kernel
theorem dL_law_1101 : decode cL_law 1101 = .ok (.iaload, 1) := by decide +kernel
theorem dL_law_1102 : decode cL_law 1102 = .ok (.aload_n 0, 1) := by decide +kernel
theorem dL_law_1103 : decode cL_law 1103 = .ok (.iload_n 3, 1) := by decide +kernel
theorem dL_law_1104 : decode cL_law 1104 = .ok (.iconst 2, 1) := by decide +kernel
theorem dL_law_1105 : decode cL_law 1105 = .ok (.iadd, 1) := by decide +kernel
theorem dL_law_1106 : decode cL_law 1106 = .ok (.iaload, 1) := by decide +kernel
theorem dL_law_1107 : decode cL_law 1107 = .ok (.invokevirtual 135, 3) := by decide +kernel
theorem dL_law_1110 : decode cL_law 1110 = .ok (.if_icmp .eq 241, 3) := by decide +kernel
theorem dL_law_1113 : decode cL_law 1113 = .ok (.iconst 0, 1) := by decide +kernel
theorem dL_law_1114 : decode cL_law 1114 = .ok (.ireturn, 1) := by decide +kernel
theorem dL_law_1115 : decode cL_law 1115 = .ok (.aload_n 1, 1) := by decide +kernel
theorem dL_law_1116 : decode cL_law 1116 = .ok (.aload_n 0, 1) := by decide +kernel
theorem dL_law_1117 : decode cL_law 1117 = .ok (.iload_n 3, 1) := by decide +kernel
theorem dL_law_1118 : decode cL_law 1118 = .ok (.iconst 1, 1) := by decide +kernel
theorem dL_law_1119 : decode cL_law 1119 = .ok (.iadd, 1) := by decide +kernel
theorem dL_law_1120 : decode cL_law 1120 = .ok (.iaload, 1) := by decide +kernel
theorem dL_law_1121 : decode cL_law 1121 = .ok (.invokevirtual 136, 3) := by decide +kernel
theorem dL_law_1124 : decode cL_law 1124 = .ok (.aload_n 2, 1) := by decide +kernel
theorem dL_law_1125 : decode cL_law 1125 = .ok (.aload_n 0, 1) := by decide +kernel
theorem dL_law_1126 : decode cL_law 1126 = .ok (.iload_n 3, 1) := by decide +kernel
theorem dL_law_1127 : decode cL_law 1127 = .ok (.iconst 1, 1) := by decide +kernel
theorem dL_law_1128 : decode cL_law 1128 = .ok (.iadd, 1) := by decide +kernel
theorem dL_law_1129 : decode cL_law 1129 = .ok (.iaload, 1) := by decide +kernel
theorem dL_law_1130 : decode cL_law 1130 = .ok (.invokevirtual 139, 3) := by decide +kernel
theorem dL_law_1133 : decode cL_law 1133 = .ok (.if_icmp .eq 218, 3) := by decide +kernel
theorem dL_law_1136 : decode cL_law 1136 = .ok (.iconst 0, 1) := by decide +kernel
theorem dL_law_1137 : decode cL_law 1137 = .ok (.ireturn, 1) := by decide +kernel
theorem dL_law_1138 : decode cL_law 1138 = .ok (.aload_n 1, 1) := by decide +kernel
theorem dL_law_1139 : decode cL_law 1139 = .ok (.aload_n 0, 1) := by decide +kernel
theorem dL_law_1140 : decode cL_law 1140 = .ok (.iload_n 3, 1) := by decide +kernel
theorem dL_law_1141 : decode cL_law 1141 = .ok (.iconst 1, 1) := by decide +kernel
theorem dL_law_1142 : decode cL_law 1142 = .ok (.iadd, 1) := by decide +kernel
theorem dL_law_1143 : decode cL_law 1143 = .ok (.iaload, 1) := by decide +kernel
theorem dL_law_1144 : decode cL_law 1144 = .ok (.aload_n 0, 1) := by decide +kernel
theorem dL_law_1145 : decode cL_law 1145 = .ok (.iload_n 3, 1) := by decide +kernel
theorem dL_law_1146 : decode cL_law 1146 = .ok (.iconst 2, 1) := by decide +kernel
theorem dL_law_1147 : decode cL_law 1147 = .ok (.iadd, 1) := by decide +kernel
theorem dL_law_1148 : decode cL_law 1148 = .ok (.iaload, 1) := by decide +kernel
theorem dL_law_1149 : decode cL_law 1149 = .ok (.aload_n 0, 1) := by decide +kernel
theorem dL_law_1150 : decode cL_law 1150 = .ok (.iload_n 3, 1) := by decide +kernel
theorem dL_law_1151 : decode cL_law 1151 = .ok (.iconst 3, 1) := by decide +kernel
theorem dL_law_1152 : decode cL_law 1152 = .ok (.iadd, 1) := by decide +kernel
theorem dL_law_1153 : decode cL_law 1153 = .ok (.iaload, 1) := by decide +kernel
theorem dL_law_1154 : decode cL_law 1154 = .ok (.invokevirtual 140, 3) := by decide +kernel
theorem dL_law_1157 : decode cL_law 1157 = .ok (.aload_n 2, 1) := by decide +kernel
theorem dL_law_1158 : decode cL_law 1158 = .ok (.aload_n 0, 1) := by decide +kernel
theorem dL_law_1159 : decode cL_law 1159 = .ok (.iload_n 3, 1) := by decide +kernel
theorem dL_law_1160 : decode cL_law 1160 = .ok (.iconst 1, 1) := by decide +kernel
theorem dL_law_1161 : decode cL_law 1161 = .ok (.iadd, 1) := by decide +kernel
theorem dL_law_1162 : decode cL_law 1162 = .ok (.iaload, 1) := by decide +kernel
theorem dL_law_1163 : decode cL_law 1163 = .ok (.aload_n 0, 1) := by decide +kernel
theorem dL_law_1164 : decode cL_law 1164 = .ok (.iload_n 3, 1) := by decide +kernel
theorem dL_law_1165 : decode cL_law 1165 = .ok (.iconst 2, 1) := by decide +kernel
theorem dL_law_1166 : decode cL_law 1166 = .ok (.iadd, 1) := by decide +kernel
theorem dL_law_1167 : decode cL_law 1167 = .ok (.iaload, 1) := by decide +kernel
theorem dL_law_1168 : decode cL_law 1168 = .ok (.aload_n 0, 1) := by decide +kernel
theorem dL_law_1169 : decode cL_law 1169 = .ok (.iload_n 3, 1) := by decide +kernel
theorem dL_law_1170 : decode cL_law 1170 = .ok (.iconst 3, 1) := by decide +kernel
theorem dL_law_1171 : decode cL_law 1171 = .ok (.iadd, 1) := by decide +kernel
theorem dL_law_1172 : decode cL_law 1172 = .ok (.iaload, 1) := by decide +kernel
theorem dL_law_1173 : decode cL_law 1173 = .ok (.invokevirtual 143, 3) := by decide +kernel
theorem dL_law_1176 : decode cL_law 1176 = .ok (.if_icmp .eq 175, 3) := by decide +kernel
theorem dL_law_1179 : decode cL_law 1179 = .ok (.iconst 0, 1) := by decide +kernel
theorem dL_law_1180 : decode cL_law 1180 = .ok (.ireturn, 1) := by decide +kernel
theorem dL_law_1181 : decode cL_law 1181 = .ok (.aload_n 1, 1) := by decide +kernel
theorem dL_law_1182 : decode cL_law 1182 = .ok (.aload_n 0, 1) := by decide +kernel
theorem dL_law_1183 : decode cL_law 1183 = .ok (.iload_n 3, 1) := by decide +kernel
theorem dL_law_1184 : decode cL_law 1184 = .ok (.iconst 1, 1) := by decide +kernel
theorem dL_law_1185 : decode cL_law 1185 = .ok (.iadd, 1) := by decide +kernel
theorem dL_law_1186 : decode cL_law 1186 = .ok (.iaload, 1) := by decide +kernel
theorem dL_law_1187 : decode cL_law 1187 = .ok (.aload_n 0, 1) := by decide +kernel
theorem dL_law_1188 : decode cL_law 1188 = .ok (.iload_n 3, 1) := by decide +kernel
theorem dL_law_1189 : decode cL_law 1189 = .ok (.iconst 2, 1) := by decide +kernel
theorem dL_law_1190 : decode cL_law 1190 = .ok (.iadd, 1) := by decide +kernel
theorem dL_law_1191 : decode cL_law 1191 = .ok (.iaload, 1) := by decide +kernel
theorem dL_law_1192 : decode cL_law 1192 = .ok (.aload_n 0, 1) := by decide +kernel
theorem dL_law_1193 : decode cL_law 1193 = .ok (.iload_n 3, 1) := by decide +kernel
theorem dL_law_1194 : decode cL_law 1194 = .ok (.iconst 3, 1) := by decide +kernel
theorem dL_law_1195 : decode cL_law 1195 = .ok (.iadd, 1) := by decide +kernel
theorem dL_law_1196 : decode cL_law 1196 = .ok (.iaload, 1) := by decide +kernel
theorem dL_law_1197 : decode cL_law 1197 = .ok (.i2l, 1) := by decide +kernel
theorem dL_law_1198 : decode cL_law 1198 = .ok (.bipush 32, 2) := by decide +kernel
theorem dL_law_1200 : decode cL_law 1200 = .ok (.lshl, 1) := by decide +kernel
theorem dL_law_1201 : decode cL_law 1201 = .ok (.aload_n 0, 1) := by decide +kernel
theorem dL_law_1202 : decode cL_law 1202 = .ok (.iload_n 3, 1) := by decide +kernel
theorem dL_law_1203 : decode cL_law 1203 = .ok (.iconst 4, 1) := by decide +kernel
theorem dL_law_1204 : decode cL_law 1204 = .ok (.iadd, 1) := by decide +kernel
theorem dL_law_1205 : decode cL_law 1205 = .ok (.iaload, 1) := by decide +kernel
theorem dL_law_1206 : decode cL_law 1206 = .ok (.i2l, 1) := by decide +kernel
theorem dL_law_1207 : decode cL_law 1207 = .ok (.ldc2_w 144, 3) := by decide +kernel
theorem dL_law_1210 : decode cL_law 1210 = .ok (.land, 1) := by decide +kernel
theorem dL_law_1211 : decode cL_law 1211 = .ok (.lor, 1) := by decide +kernel
theorem dL_law_1212 : decode cL_law 1212 = .ok (.invokevirtual 146, 3) := by decide +kernel
theorem dL_law_1215 : decode cL_law 1215 = .ok (.aload_n 2, 1) := by decide +kernel
theorem dL_law_1216 : decode cL_law 1216 = .ok (.aload_n 0, 1) := by decide +kernel
theorem dL_law_1217 : decode cL_law 1217 = .ok (.iload_n 3, 1) := by decide +kernel
theorem dL_law_1218 : decode cL_law 1218 = .ok (.iconst 1, 1) := by decide +kernel
theorem dL_law_1219 : decode cL_law 1219 = .ok (.iadd, 1) := by decide +kernel
theorem dL_law_1220 : decode cL_law 1220 = .ok (.iaload, 1) := by decide +kernel
theorem dL_law_1221 : decode cL_law 1221 = .ok (.aload_n 0, 1) := by decide +kernel
theorem dL_law_1222 : decode cL_law 1222 = .ok (.iload_n 3, 1) := by decide +kernel
theorem dL_law_1223 : decode cL_law 1223 = .ok (.iconst 2, 1) := by decide +kernel
theorem dL_law_1224 : decode cL_law 1224 = .ok (.iadd, 1) := by decide +kernel
theorem dL_law_1225 : decode cL_law 1225 = .ok (.iaload, 1) := by decide +kernel
theorem dL_law_1226 : decode cL_law 1226 = .ok (.aload_n 0, 1) := by decide +kernel
theorem dL_law_1227 : decode cL_law 1227 = .ok (.iload_n 3, 1) := by decide +kernel
theorem dL_law_1228 : decode cL_law 1228 = .ok (.iconst 3, 1) := by decide +kernel
theorem dL_law_1229 : decode cL_law 1229 = .ok (.iadd, 1) := by decide +kernel
theorem dL_law_1230 : decode cL_law 1230 = .ok (.iaload, 1) := by decide +kernel
theorem dL_law_1231 : decode cL_law 1231 = .ok (.i2l, 1) := by decide +kernel
theorem dL_law_1232 : decode cL_law 1232 = .ok (.bipush 32, 2) := by decide +kernel
theorem dL_law_1234 : decode cL_law 1234 = .ok (.lshl, 1) := by decide +kernel
theorem dL_law_1235 : decode cL_law 1235 = .ok (.aload_n 0, 1) := by decide +kernel
theorem dL_law_1236 : decode cL_law 1236 = .ok (.iload_n 3, 1) := by decide +kernel
theorem dL_law_1237 : decode cL_law 1237 = .ok (.iconst 4, 1) := by decide +kernel
theorem dL_law_1238 : decode cL_law 1238 = .ok (.iadd, 1) := by decide +kernel
theorem dL_law_1239 : decode cL_law 1239 = .ok (.iaload, 1) := by decide +kernel
theorem dL_law_1240 : decode cL_law 1240 = .ok (.i2l, 1) := by decide +kernel
theorem dL_law_1241 : decode cL_law 1241 = .ok (.ldc2_w 144, 3) := by decide +kernel
theorem dL_law_1244 : decode cL_law 1244 = .ok (.land, 1) := by decide +kernel
theorem dL_law_1245 : decode cL_law 1245 = .ok (.lor, 1) := by decide +kernel
theorem dL_law_1246 : decode cL_law 1246 = .ok (.invokevirtual 150, 3) := by decide +kernel
theorem dL_law_1249 : decode cL_law 1249 = .ok (.if_icmp .eq 102, 3) := by decide +kernel
theorem dL_law_1252 : decode cL_law 1252 = .ok (.iconst 0, 1) := by decide +kernel
theorem dL_law_1253 : decode cL_law 1253 = .ok (.ireturn, 1) := by decide +kernel
theorem dL_law_1254 : decode cL_law 1254 = .ok (.aload_n 1, 1) := by decide +kernel
theorem dL_law_1255 : decode cL_law 1255 = .ok (.aload_n 0, 1) := by decide +kernel
theorem dL_law_1256 : decode cL_law 1256 = .ok (.iload_n 3, 1) := by decide +kernel
theorem dL_law_1257 : decode cL_law 1257 = .ok (.iconst 1, 1) := by decide +kernel
theorem dL_law_1258 : decode cL_law 1258 = .ok (.iadd, 1) := by decide +kernel
theorem dL_law_1259 : decode cL_law 1259 = .ok (.iaload, 1) := by decide +kernel
theorem dL_law_1260 : decode cL_law 1260 = .ok (.aload_n 0, 1) := by decide +kernel
theorem dL_law_1261 : decode cL_law 1261 = .ok (.iload_n 3, 1) := by decide +kernel
theorem dL_law_1262 : decode cL_law 1262 = .ok (.iconst 2, 1) := by decide +kernel
theorem dL_law_1263 : decode cL_law 1263 = .ok (.iadd, 1) := by decide +kernel
theorem dL_law_1264 : decode cL_law 1264 = .ok (.iaload, 1) := by decide +kernel
theorem dL_law_1265 : decode cL_law 1265 = .ok (.invokevirtual 151, 3) := by decide +kernel
theorem dL_law_1268 : decode cL_law 1268 = .ok (.aload_n 2, 1) := by decide +kernel
theorem dL_law_1269 : decode cL_law 1269 = .ok (.aload_n 0, 1) := by decide +kernel
theorem dL_law_1270 : decode cL_law 1270 = .ok (.iload_n 3, 1) := by decide +kernel
theorem dL_law_1271 : decode cL_law 1271 = .ok (.iconst 1, 1) := by decide +kernel
theorem dL_law_1272 : decode cL_law 1272 = .ok (.iadd, 1) := by decide +kernel
theorem dL_law_1273 : decode cL_law 1273 = .ok (.iaload, 1) := by decide +kernel
theorem dL_law_1274 : decode cL_law 1274 = .ok (.aload_n 0, 1) := by decide +kernel
theorem dL_law_1275 : decode cL_law 1275 = .ok (.iload_n 3, 1) := by decide +kernel
theorem dL_law_1276 : decode cL_law 1276 = .ok (.iconst 2, 1) := by decide +kernel
theorem dL_law_1277 : decode cL_law 1277 = .ok (.iadd, 1) := by decide +kernel
theorem dL_law_1278 : decode cL_law 1278 = .ok (.iaload, 1) := by decide +kernel
theorem dL_law_1279 : decode cL_law 1279 = .ok (.invokevirtual 154, 3) := by decide +kernel
theorem dL_law_1282 : decode cL_law 1282 = .ok (.lcmp, 1) := by decide +kernel
theorem dL_law_1283 : decode cL_law 1283 = .ok (.ifCond .eq 68, 3) := by decide +kernel
theorem dL_law_1286 : decode cL_law 1286 = .ok (.iconst 0, 1) := by decide +kernel
theorem dL_law_1287 : decode cL_law 1287 = .ok (.ireturn, 1) := by decide +kernel
theorem dL_law_1288 : decode cL_law 1288 = .ok (.aload_n 1, 1) := by decide +kernel
theorem dL_law_1289 : decode cL_law 1289 = .ok (.aload_n 0, 1) := by decide +kernel
theorem dL_law_1290 : decode cL_law 1290 = .ok (.iload_n 3, 1) := by decide +kernel
theorem dL_law_1291 : decode cL_law 1291 = .ok (.iconst 1, 1) := by decide +kernel
theorem dL_law_1292 : decode cL_law 1292 = .ok (.iadd, 1) := by decide +kernel
theorem dL_law_1293 : decode cL_law 1293 = .ok (.iaload, 1) := by decide +kernel
theorem dL_law_1294 : decode cL_law 1294 = .ok (.aload_n 0, 1) := by decide +kernel
theorem dL_law_1295 : decode cL_law 1295 = .ok (.iload_n 3, 1) := by decide +kernel
theorem dL_law_1296 : decode cL_law 1296 = .ok (.iconst 2, 1) := by decide +kernel
theorem dL_law_1297 : decode cL_law 1297 = .ok (.iadd, 1) := by decide +kernel
theorem dL_law_1298 : decode cL_law 1298 = .ok (.iaload, 1) := by decide +kernel
theorem dL_law_1299 : decode cL_law 1299 = .ok (.aload_n 0, 1) := by decide +kernel
theorem dL_law_1300 : decode cL_law 1300 = .ok (.iload_n 3, 1) := by decide +kernel
theorem dL_law_1301 : decode cL_law 1301 = .ok (.iconst 3, 1) := by decide +kernel
theorem dL_law_1302 : decode cL_law 1302 = .ok (.iadd, 1) := by decide +kernel
theorem dL_law_1303 : decode cL_law 1303 = .ok (.iaload, 1) := by decide +kernel
theorem dL_law_1304 : decode cL_law 1304 = .ok (.aload_n 0, 1) := by decide +kernel
theorem dL_law_1305 : decode cL_law 1305 = .ok (.iload_n 3, 1) := by decide +kernel
theorem dL_law_1306 : decode cL_law 1306 = .ok (.iconst 4, 1) := by decide +kernel
theorem dL_law_1307 : decode cL_law 1307 = .ok (.iadd, 1) := by decide +kernel
theorem dL_law_1308 : decode cL_law 1308 = .ok (.iaload, 1) := by decide +kernel
theorem dL_law_1309 : decode cL_law 1309 = .ok (.aload_n 0, 1) := by decide +kernel
theorem dL_law_1310 : decode cL_law 1310 = .ok (.iload_n 3, 1) := by decide +kernel
theorem dL_law_1311 : decode cL_law 1311 = .ok (.iconst 5, 1) := by decide +kernel
theorem dL_law_1312 : decode cL_law 1312 = .ok (.iadd, 1) := by decide +kernel
theorem dL_law_1313 : decode cL_law 1313 = .ok (.iaload, 1) := by decide +kernel
theorem dL_law_1314 : decode cL_law 1314 = .ok (.invokevirtual 155, 3) := by decide +kernel
theorem dL_law_1317 : decode cL_law 1317 = .ok (.aload_n 2, 1) := by decide +kernel
theorem dL_law_1318 : decode cL_law 1318 = .ok (.aload_n 0, 1) := by decide +kernel
theorem dL_law_1319 : decode cL_law 1319 = .ok (.iload_n 3, 1) := by decide +kernel
theorem dL_law_1320 : decode cL_law 1320 = .ok (.iconst 1, 1) := by decide +kernel
theorem dL_law_1321 : decode cL_law 1321 = .ok (.iadd, 1) := by decide +kernel
theorem dL_law_1322 : decode cL_law 1322 = .ok (.iaload, 1) := by decide +kernel
theorem dL_law_1323 : decode cL_law 1323 = .ok (.aload_n 0, 1) := by decide +kernel
theorem dL_law_1324 : decode cL_law 1324 = .ok (.iload_n 3, 1) := by decide +kernel
theorem dL_law_1325 : decode cL_law 1325 = .ok (.iconst 2, 1) := by decide +kernel
theorem dL_law_1326 : decode cL_law 1326 = .ok (.iadd, 1) := by decide +kernel
theorem dL_law_1327 : decode cL_law 1327 = .ok (.iaload, 1) := by decide +kernel
theorem dL_law_1328 : decode cL_law 1328 = .ok (.aload_n 0, 1) := by decide +kernel
theorem dL_law_1329 : decode cL_law 1329 = .ok (.iload_n 3, 1) := by decide +kernel
theorem dL_law_1330 : decode cL_law 1330 = .ok (.iconst 3, 1) := by decide +kernel
theorem dL_law_1331 : decode cL_law 1331 = .ok (.iadd, 1) := by decide +kernel
theorem dL_law_1332 : decode cL_law 1332 = .ok (.iaload, 1) := by decide +kernel
theorem dL_law_1333 : decode cL_law 1333 = .ok (.aload_n 0, 1) := by decide +kernel
theorem dL_law_1334 : decode cL_law 1334 = .ok (.iload_n 3, 1) := by decide +kernel
theorem dL_law_1335 : decode cL_law 1335 = .ok (.iconst 4, 1) := by decide +kernel
theorem dL_law_1336 : decode cL_law 1336 = .ok (.iadd, 1) := by decide +kernel
theorem dL_law_1337 : decode cL_law 1337 = .ok (.iaload, 1) := by decide +kernel
theorem dL_law_1338 : decode cL_law 1338 = .ok (.aload_n 0, 1) := by decide +kernel
theorem dL_law_1339 : decode cL_law 1339 = .ok (.iload_n 3, 1) := by decide +kernel
theorem dL_law_1340 : decode cL_law 1340 = .ok (.iconst 5, 1) := by decide +kernel
theorem dL_law_1341 : decode cL_law 1341 = .ok (.iadd, 1) := by decide +kernel
theorem dL_law_1342 : decode cL_law 1342 = .ok (.iaload, 1) := by decide +kernel
theorem dL_law_1343 : decode cL_law 1343 = .ok (.invokevirtual 159, 3) := by decide +kernel
theorem dL_law_1346 : decode cL_law 1346 = .ok (.if_icmp .eq 5, 3) := by decide +kernel
theorem dL_law_1349 : decode cL_law 1349 = .ok (.iconst 0, 1) := by decide +kernel
theorem dL_law_1350 : decode cL_law 1350 = .ok (.ireturn, 1) := by decide +kernel
theorem dL_law_1351 : decode cL_law 1351 = .ok (.iinc 3 6, 3) := by decide +kernel
theorem dL_law_1354 : decode cL_law 1354 = .ok (.goto (-1336), 3) := by decide +kernel
theorem dL_law_1357 : decode cL_law 1357 = .ok (.iconst 1, 1) := by decide +kernel
theorem dL_law_1358 : decode cL_law 1358 = .ok (.ireturn, 1) := by decide +kernel
end
section
/-! THE LAYER: an abstract heap of numbered objects (shape; ints; longs; fixed references; references that change), and what the machine does over it -/
def zT : List Cond := lw_tbl.filter goodWord
theorem zT_tb (i : Nat) {w : Cond} (h : tables_1[i]? = some w) (hg : goodWord w = true) : w ∈ zT := List.mem_filter.mpr ⟨List.mem_append_right _ (List.mem_of_getElem? h), hg⟩
theorem zT_sl (i : Nat) {w : Cond} (h : (k2_sels lw_privs)[i]? = some w) (hg : goodWord w = true) : w ∈ zT := List.mem_filter.mpr ⟨List.mem_append_left _ (List.mem_of_getElem? h), hg⟩
theorem zT_tn (i : Nat) {w : Cond} (h : tables_1[i]? = some w) : w ∈ lw_tbl := List.mem_append_right _ (List.mem_of_getElem? h)
abbrev zY : Type := MethodName × ByteArray × Nat × Option FieldType
def zcode (Y : zY) : Cond := .code Y.1 Y.2.1 Y.2.2.1 Y.2.2.2
def zWs (Y : zY) : List Cond := zcode Y :: zT
theorem zGood {Y : zY} (h : zcode Y ∈ zT) : GoodIn zT (zWs Y) := by
  intro w hw
  have hm : w ∈ zT := by
    rcases List.mem_cons.mp hw with e | e
    · rw [e]; exact h
    · exact e
  exact ⟨hm, good_of_word (List.mem_filter.mp hm).2⟩
/-- the classes -/
def zR : Nat → String := fun k => match k with
  | 0 => RX0 | 1 => RX1 | 2 => RX2 | 3 => RX3 | 4 => RX4 | 5 => RX5 | 6 => RX6 | 7 => RX7 | 8 => RX8 | 9 => RX9 | 10 => RX10 | _ => RX11
def zTt : Nat → u_T := fun k => match k with
  | 0 => TX0 | 1 => TX1 | 2 => TX2 | 3 => TX3 | 4 => TX4 | 5 => TX5 | 6 => TX6 | 7 => TX7 | 8 => TX8 | 9 => TX9 | 10 => TX10 | _ => TX11
def zN : Nat → Nat := fun k => match k with
  | 0 => 7 | 1 => 3 | 2 => 9 | 3 => 6 | 4 => 3 | 5 => 2 | 6 => 2 | 7 => 3 | 8 => 2 | 9 => 3 | 10 => 13 | _ => 46
def zty : Nat → Nat → FieldType := fun k => match k with
  | 0 => tyX0 | 1 => tyX1 | 2 => tyX2 | 3 => tyX3 | 4 => tyX4 | 5 => tyX5 | 6 => tyX6 | 7 => tyX7 | 8 => tyX8 | 9 => tyX9 | 10 => tyX10 | _ => tyX11
def zcls : List vw_C := [(RX0, TX0, 7), (RX1, TX1, 3), (RX2, TX2, 9), (RX3, TX3, 6), (RX4, TX4, 3), (RX5, TX5, 2), (RX6, TX6, 2), (RX7, TX7, 3), (RX8, TX8, 2), (RX9, TX9, 3), (RX10, TX10, 13), (RX11, TX11, 46)]
theorem z12 {P : Nat → Prop} (h0 : P 0) (h1 : P 1) (h2 : P 2) (h3 : P 3) (h4 : P 4) (h5 : P 5) (h6 : P 6) (h7 : P 7) (h8 : P 8) (h9 : P 9) (h10 : P 10) (h11 : P 11) : ∀ ci, ci < 12 → P ci := by
  intro ci h
  match ci, h with
  | 0, _ => exact h0
  | 1, _ => exact h1
  | 2, _ => exact h2
  | 3, _ => exact h3
  | 4, _ => exact h4
  | 5, _ => exact h5
  | 6, _ => exact h6
  | 7, _ => exact h7
  | 8, _ => exact h8
  | 9, _ => exact h9
  | 10, _ => exact h10
  | 11, _ => exact h11
  | n + 12, h => exact absurd h (by omega)
theorem zcls_at : ∀ ci, ci < 12 → zcls[ci]? = some (zR ci, zTt ci, zN ci) := z12 rfl rfl rfl rfl rfl rfl rfl rfl rfl rfl rfl rfl
theorem zty_ok : ∀ ci, ci < 12 → ∀ k, k < zN ci → parseFieldDescriptor (zTt ci k).2.2.1 = some (zty ci k) := z12 tyX0_ok tyX1_ok tyX2_ok tyX3_ok tyX4_ok tyX5_ok tyX6_ok tyX7_ok tyX8_ok tyX9_ok tyX10_ok tyX11_ok
theorem znm : ∀ ci, ci < 12 → ∀ a, a < zN ci → ∀ b, b < zN ci → a ≠ b → (zTt ci a).2.1 ≠ (zTt ci b).2.1 := z12 nmX0 nmX1 nmX2 nmX3 nmX4 nmX5 nmX6 nmX7 nmX8 nmX9 nmX10 nmX11
/-- 0: ints and booleans; 1: longs; 3: references that change (an Inn's house, a Lure's inn and guest); 2: the others -/
def zf (ci j : Nat) : Nat := match zty ci j with
  | .int => 0
  | .boolean => 0
  | .long => 1
  | _ => if ci = 2 ∧ (zTt 2 j).2.1 = "house" then 3 else if ci = 3 ∧ ((zTt 3 j).2.1 = "inn" ∨ (zTt 3 j).2.1 = "guest") then 3 else 2
def ztys (cs : Nat → ClassId) : List (ClassId × FieldType) := [(cs 0, .int), (cs 1, .long), (cs 2, .boolean), (cs 3, .array .int), (cs 4, .object RX0), (cs 5, .object RX1), (cs 6, .object RX3), (cs 7, .object RX9)]
/-- number of objects, shapes (kind, size), ints, longs, fixed references, changing references -/
abbrev zH : Type := Nat × (Nat → Nat × Nat) × (Nat → Nat → Int32) × (Nat → Nat → Int64) × (Nat → Nat → Option Nat) × (Nat → Nat → Option Nat)
def zn (h : zH) : Nat := h.1
def zs (h : zH) : Nat → Nat × Nat := h.2.1
def zI (h : zH) : Nat → Nat → Int32 := h.2.2.1
def zL (h : zH) : Nat → Nat → Int64 := h.2.2.2.1
def zP (h : zH) : Nat → Nat → Option Nat := h.2.2.2.2.1
def zM (h : zH) : Nat → Nat → Option Nat := h.2.2.2.2.2
def u2 {α : Type} (f : Nat → Nat → α) (a j : Nat) (v : α) : Nat → Nat → α := fun b i => if b = a then (if i = j then v else f b i) else f b i
def uR {α : Type} (f : Nat → Nat → α) (a : Nat) (r : Nat → α) : Nat → Nat → α := fun b i => if b = a then r i else f b i
def zsI (h : zH) (a j : Nat) (v : Int32) : zH := (h.1, h.2.1, u2 h.2.2.1 a j v, h.2.2.2)
def zsL (h : zH) (a j : Nat) (v : Int64) : zH := (h.1, h.2.1, h.2.2.1, u2 h.2.2.2.1 a j v, h.2.2.2.2)
def zsP (h : zH) (a j : Nat) (v : Option Nat) : zH := (h.1, h.2.1, h.2.2.1, h.2.2.2.1, u2 h.2.2.2.2.1 a j v, h.2.2.2.2.2)
def zsM (h : zH) (a j : Nat) (v : Option Nat) : zH := (h.1, h.2.1, h.2.2.1, h.2.2.2.1, h.2.2.2.2.1, u2 h.2.2.2.2.2 a j v)
def zrI (h : zH) (a : Nat) (r : Nat → Int32) : zH := (h.1, h.2.1, uR h.2.2.1 a r, h.2.2.2)
def zrL (h : zH) (a : Nat) (r : Nat → Int64) : zH := (h.1, h.2.1, h.2.2.1, uR h.2.2.2.1 a r, h.2.2.2.2)
/-- a new object at the end: of kind k and size n, all 0 -/
def zadd (h : zH) (k n : Nat) : zH := (h.1 + 1, va_up h.2.1 h.1 (k, n), uR h.2.2.1 h.1 (fun _ => 0), uR h.2.2.2.1 h.1 (fun _ => 0), uR h.2.2.2.2.1 h.1 (fun _ => none), uR h.2.2.2.2.2 h.1 (fun _ => none))
theorem u2_s {α : Type} (f : Nat → Nat → α) (a j : Nat) (v : α) : u2 f a j v a = fun i => if i = j then v else f a i := by funext i; simp [u2]
theorem u2_o {α : Type} (f : Nat → Nat → α) {a b : Nat} (j : Nat) (v : α) (h : b ≠ a) : u2 f a j v b = f b := by funext i; simp [u2, h]
theorem uR_s {α : Type} (f : Nat → Nat → α) (a : Nat) (r : Nat → α) : uR f a r a = r := by funext i; simp [uR]
theorem uR_o {α : Type} (f : Nat → Nat → α) {a b : Nat} (r : Nat → α) (h : b ≠ a) : uR f a r b = f b := by funext i; simp [uR, h]
def zv (ad : Nat → Nat) : Value → Value
  | .ref k => .ref (ad k)
  | v => v
def zl (ad : Nat → Nat) (q : Nat × Value) : Nat × Value := (q.1, zv ad q.2)
theorem zv_cat (ad : Nat → Nat) (v : Value) : (zv ad v).category = v.category := by cases v <;> rfl
def zfv (ad : Nat → Nat) (h : zH) (a ci j : Nat) : Value := match zf ci j with
  | 0 => .int (zI h a j)
  | 1 => .long (zL h a j)
  | 2 => va_rf ((zP h a j).map ad)
  | _ => va_rf ((zM h a j).map ad)
def zcell (cs : Nat → ClassId) (ad : Nat → Nat) (h : zH) (a : Nat) : va_E := match (zs h a).1 with
  | 12 => .inl (cs 0, (zs h a).2, .inl (zI h a))
  | 13 => .inl (cs 1, (zs h a).2, .inr (.inl (zL h a)))
  | 14 => .inl (cs 2, (zs h a).2, .inl (zI h a))
  | 15 => .inl (cs 3, (zs h a).2, .inr (.inr (.inr (.inr (fun j => (zP h a j).map ad)))))
  | 16 => .inl (cs 4, (zs h a).2, .inr (.inr (.inr (.inr (fun j => (zP h a j).map ad)))))
  | 17 => .inl (cs 5, (zs h a).2, .inr (.inr (.inr (.inr (fun j => (zP h a j).map ad)))))
  | 18 => .inl (cs 6, (zs h a).2, .inr (.inr (.inr (.inr (fun j => (zP h a j).map ad)))))
  | 19 => .inl (cs 7, (zs h a).2, .inr (.inr (.inr (.inr (fun j => (zP h a j).map ad)))))
  | ci => .inr (ci, (List.range (zN ci)).map (zfv ad h a ci))
theorem zcell_o {cs : Nat → ClassId} {ad : Nat → Nat} {h : zH} {a ci n : Nat} (hs : zs h a = (ci, n)) (hc : ci < 12) : zcell cs ad h a = .inr (ci, (List.range (zN ci)).map (zfv ad h a ci)) := by
  unfold zcell
  rw [hs]
  match ci, hc with
  | 0, _ => rfl
  | 1, _ => rfl
  | 2, _ => rfl
  | 3, _ => rfl
  | 4, _ => rfl
  | 5, _ => rfl
  | 6, _ => rfl
  | 7, _ => rfl
  | 8, _ => rfl
  | 9, _ => rfl
  | 10, _ => rfl
  | 11, _ => rfl
  | n + 12, h => exact absurd h (by omega)
theorem zcell_i {cs : Nat → ClassId} {ad : Nat → Nat} {h : zH} {a n : Nat} (hs : zs h a = (12, n)) : zcell cs ad h a = .inl (cs 0, n, .inl (zI h a)) := by unfold zcell; rw [hs]; rfl
theorem zcell_l {cs : Nat → ClassId} {ad : Nat → Nat} {h : zH} {a n : Nat} (hs : zs h a = (13, n)) : zcell cs ad h a = .inl (cs 1, n, .inr (.inl (zL h a))) := by unfold zcell; rw [hs]; rfl
theorem zcell_z {cs : Nat → ClassId} {ad : Nat → Nat} {h : zH} {a n : Nat} (hs : zs h a = (14, n)) : zcell cs ad h a = .inl (cs 2, n, .inl (zI h a)) := by unfold zcell; rw [hs]; rfl
theorem zcell_q {cs : Nat → ClassId} {ad : Nat → Nat} {h : zH} {a n k : Nat} (hs : zs h a = (15 + k, n)) (hk : k < 5) : zcell cs ad h a = .inl (cs (3 + k), n, .inr (.inr (.inr (.inr (fun j => (zP h a j).map ad))))) := by
  unfold zcell
  rw [hs]
  match k, hk with
  | 0, _ => rfl
  | 1, _ => rfl
  | 2, _ => rfl
  | 3, _ => rfl
  | 4, _ => rfl
  | n + 5, h => exact absurd h (by omega)
theorem zcell_eq {cs : Nat → ClassId} {ad : Nat → Nat} {h h' : zH} {a : Nat} (e1 : zs h' a = zs h a) (e2 : zI h' a = zI h a) (e3 : zL h' a = zL h a) (e4 : zP h' a = zP h a) (e5 : zM h' a = zM h a) : zcell cs ad h' a = zcell cs ad h a := by
  have e6 : ∀ ci, zfv ad h' a ci = zfv ad h a ci := fun ci => by
    funext j
    unfold zfv
    rw [e2, e3, e4, e5]
  unfold zcell
  rw [e1, e2, e3, e4]
  simp only [e6]
def zws (cs : Nat → ClassId) (ad : Nat → Nat) (h : zH) : va_W := (List.range (zn h)).map (fun i => (ad i, zcell cs ad h i))
theorem zws_at {cs : Nat → ClassId} {ad : Nat → Nat} {h : zH} {a : Nat} (ha : a < zn h) : (zws cs ad h)[a]? = some (ad a, zcell cs ad h a) := by simp [zws, ha]
theorem zws_set {cs : Nat → ClassId} {ad : Nat → Nat} {h h' : zH} {a : Nat} {e : va_E} (hn : zn h' = zn h) (he : zcell cs ad h' a = e) (ho : ∀ i, i ≠ a → zcell cs ad h' i = zcell cs ad h i) : (zws cs ad h).set a (ad a, e) = zws cs ad h' := by
  apply List.ext_getElem?
  intro i
  rw [List.getElem?_set]
  by_cases hi : i = a
  · subst hi
    by_cases hl : i < zn h
    · simp [zws, hl, hn, he]
    · simp [zws, hl, hn]
  · rw [if_neg (fun q => hi q.symm)]
    by_cases hl : i < zn h
    · simp [zws, hl, hn, ho i hi]
    · simp [zws, hl, hn]
theorem zws_add {cs : Nat → ClassId} {ad : Nat → Nat} {h h' : zH} {q : Nat} {e : va_E} (hn : zn h' = zn h + 1) (hz : ∀ i, i < zn h → zP h i = zP h' i) (he : zcell cs (va_up ad (zn h) q) h' (zn h) = e) (ho : ∀ i, i < zn h → zcell cs (va_up ad (zn h) q) h' i = zcell cs ad h i) : zws cs ad h ++ [(q, e)] = zws cs (va_up ad (zn h) q) h' := by
  unfold zws
  rw [hn, List.range_succ, List.map_append]
  congr 1
  · apply List.map_congr_left
    intro i hi
    have hl := List.mem_range.mp hi
    rw [ho i hl]
    simp [va_up, Nat.ne_of_lt hl]
  · simp [va_up, he]
/-- the launch's base heap; the classes; the arrays' classes; the script -/
abbrev zC : Type := Heap × va_G × (Nat → ClassId) × Nat × (Nat → Int32)
def zA (C : zC) : Nat → Prop := fun q => C.1.size ≤ q
def zWd (C : zC) (ad : Nat → Nat) (h : zH) (H : Heap) : Prop :=
  va_P C.2.1 zcls (zws C.2.2.1 ad h) H ∧ va_D (zA C) (zws C.2.2.1 ad h) ∧ zn h ≤ 1000000 ∧ ∀ a, a < zn h ∨ zs h a = (99, 0)
def zAbove : List Int32 := [-1, 0, 0, 0, 1, 2, 3]
def zBodies : List Int32 := [10, 11, 12, 0, 20, 0, 30, 0, 0, 0, 0, 40, 50, 51, 0, 0, 0, 60, 71, 70, 0]
def zsTx : List String := ["fancy ", "leave ", "keep ", "pkvxwn", "<=>", "fancy ", "leave ", "keep ", "pkvxwn", "<=>"]
def zsOw : List String := [RX4, RX4, RX4, RX4, RX4, RX11, RX11, RX11, RX11, RX11]
def zsIx : List Nat := [39, 41, 43, 74, 80, 205, 211, 213, 174, 179]
def zsBy : List (List Int32) := [[102, 97, 110, 99, 121, 32], [108, 101, 97, 118, 101, 32], [107, 101, 101, 112, 32], [112, 107, 118, 120, 119, 110], [60, 61, 62], [102, 97, 110, 99, 121, 32], [108, 101, 97, 118, 101, 32], [107, 101, 101, 112, 32], [112, 107, 118, 120, 119, 110], [60, 61, 62]]
/-- what stands before the law begins: the two tables, the script, String's and Preconditions' statics, the ten literals -/
def zOld (C : zC) (ad : Nat → Nat) (U : State) (H : Heap) : Prop :=
  va_Z "InnPurposes" "ABOVE" "[I" (.ref (ad 1000000)) (zA C) U H ∧ va_T .int (ad 1000000) 7 (fun j => .int (zAbove.getD j 0)) (zA C) U H ∧
  va_Z "InnPurposes" "BODIES" "[I" (.ref (ad 1000001)) (zA C) U H ∧ va_T .int (ad 1000001) 21 (fun j => .int (zBodies.getD j 0)) (zA C) U H ∧
  va_T .int (ad 1000002) C.2.2.2.1 (fun j => .int (C.2.2.2.2 j)) (zA C) U H ∧
  va_Z "java/lang/String" "COMPACT_STRINGS" "Z" (.int 1) (zA C) U H ∧
  (va_Z "jdk/internal/util/Preconditions" "SIOOBE_FORMATTER" "Ljava/util/function/BiFunction;" .null (zA C) U H ∨ va_Z "jdk/internal/util/Preconditions" "SIOOBE_FORMATTER" "Ljava/util/function/BiFunction;" (.ref (ad 1000003)) (zA C) U H) ∧
  (∀ i, i < 10 → va_O "java/lang/String" (ad (1000010 + i)) (zA C) U H ∧ va_OF "java/lang/String" "coder" "B" (.int 0) (ad (1000010 + i)) (zA C) U H ∧ va_OF "java/lang/String" "value" "[B" (.ref (ad (1000030 + i))) (ad (1000010 + i)) (zA C) U H ∧ va_T .byte (ad (1000030 + i)) (zsBy.getD i []).length (fun j => .int ((zsBy.getD i []).getD j 0)) (zA C) U H)
def zStr (ad : Nat → Nat) (U : State) : Prop := ∀ i, i < 10 → vk_R (zsOw.getD i "") (zsIx.getD i 0) (zsTx.getD i "") (ad (1000010 + i)) U
/-- links between nest mates, arrays over classes: words that a call doesn't carry -/
def zNst (U : State) : Prop := (∀ a i x h, Cond.methodLinkNest a i x h ∈ lw_tbl → va_Nw (.methodLinkNest a i x h) U) ∧ (∀ a i b n d h, Cond.fieldLinkNest a i b n d h ∈ lw_tbl → va_Nw (.fieldLinkNest a i b n d h) U) ∧ (∀ C, Cond.arrayOver (.object C) ∈ lw_tbl → va_AO C U) ∧ (Cond.arrayOver (.array .int)).before #[] U = true
def zfi (vm : Vm) (comp : ClassId) : Option Nat := vm.classes.findIdx? fun (x : Class) => match x.kind with | .array component _ => component == comp | _ => false
theorem zfi_bare (vm : Vm) (comp : ClassId) : zfi vm.bare comp = zfi vm comp := by
  unfold zfi
  simp only [Vm.bare, Array.findIdx?_map]
  rfl
theorem zAOI_moved {u U : State} (hvm : u.vm.Alike U.vm) (h : (Cond.arrayOver (.array .int)).before #[] u = true) : (Cond.arrayOver (.array .int)).before #[] U = true := by
  obtain ⟨comp, c, k, h1, h2, h3, h4, h5⟩ := arrayOverA_spec h
  obtain ⟨k', hk', he⟩ := hvm.2.2 _ _ h3
  have hi : zfi U.vm comp = some c := by
    rw [← zfi_bare]
    first | rw [hvm.bare_eq] | rw [← hvm.bare_eq]
    rw [zfi_bare]
    exact h2
  have hkind : k'.kind = .array comp (.array .int) := by rw [he]; exact h4
  have f1 : U.vm.findClass (FieldType.array .int).toString = some comp := by rw [hvm.findClass]; exact h1
  have f2 : U.vm.findClass ("[" ++ (FieldType.array .int).toString) = some c := by rw [hvm.findClass]; exact h5
  unfold Cond.before Cond.holds
  simp only [Cond.value]
  rw [f1, Option.bind_some]
  refine (congrArg (fun o : Option Nat => (o.bind (fun c => (U.vm.classes[c]?).map fun (k : Class) => match k.kind with | .array _ ty => decide (ty = FieldType.array .int) && decide (U.vm.findClass ("[" ++ (FieldType.array .int).toString) = some c) | _ => false) == some true)) hi).trans ?_
  simp [hk', hkind, f2]
theorem zNst_warm {s U : State} (hW : s.WarmedH U.vm) (h : zNst s) : zNst U := ⟨fun a i x n hm => (h.1 a i x n hm).warmM hW, fun a i b n d q hm => (h.2.1 a i b n d q hm).warmF hW, fun C hm => (h.2.2.1 C hm).moved hW.alike, zAOI_moved hW.alike h.2.2.2⟩
theorem zNst_same {s U : State} (hv : s.vm = U.vm) (h : zNst s) : zNst U := ⟨fun a i x n hm => (h.1 a i x n hm).same rfl hv, fun a i b n d q hm => (h.2.1 a i b n d q hm).same rfl hv, fun C hm => (h.2.2.1 C hm).moved (by rw [hv]; exact Vm.Alike.refl _), zAOI_moved (by rw [hv]; exact Vm.Alike.refl _) h.2.2.2⟩
def zBase (C : zC) (ad : Nat → Nat) (s : State) : Prop := va_K C.2.1 zcls (ztys C.2.2.1) s ∧ zOld C ad s s.heap ∧ zStr ad s ∧ C.1.size ≤ s.heap.size ∧ zNst s
theorem zOld_moved {C : zC} {ad : Nat → Nat} {u U : State} {H : Heap} (hvm : u.vm.Alike U.vm) (h : zOld C ad u H) : zOld C ad U H := by
  obtain ⟨h1, h2, h3, h4, h5, h6, h7, h8⟩ := h
  exact ⟨h1.moved hvm, h2.moved hvm, h3.moved hvm, h4.moved hvm, h5.moved hvm, h6.moved hvm, h7.imp (fun q => q.moved hvm) (fun q => q.moved hvm), fun i hi => ⟨(h8 i hi).1.moved hvm, (h8 i hi).2.1.moved hvm, (h8 i hi).2.2.1.moved hvm, (h8 i hi).2.2.2.moved hvm⟩⟩
theorem zOld_kept {C : zC} {ad : Nat → Nat} {U : State} {H H1 : Heap} (h : zOld C ad U H) (hq : ∀ a : Nat, a < H.size → ¬ zA C a → H1[a]? = H[a]?) : zOld C ad U H1 := by
  obtain ⟨h1, h2, h3, h4, h5, h6, h7, h8⟩ := h
  exact ⟨h1.kept hq, h2.kept hq, h3.kept hq, h4.kept hq, h5.kept hq, h6.kept hq, h7.imp (fun q => q.kept hq) (fun q => q.kept hq), fun i hi => ⟨(h8 i hi).1.kept hq, (h8 i hi).2.1.kept hq, (h8 i hi).2.2.1.kept hq, (h8 i hi).2.2.2.kept hq⟩⟩
theorem zOld_ad {C : zC} {ad ad' : Nat → Nat} {U : State} {H : Heap} (h : zOld C ad U H) (he : ∀ i, 1000000 ≤ i → ad' i = ad i) : zOld C ad' U H := by
  obtain ⟨h1, h2, h3, h4, h5, h6, h7, h8⟩ := h
  refine ⟨?_, ?_, ?_, ?_, ?_, h6, ?_, fun i hi => ?_⟩
  · rw [he 1000000 (by omega)]; exact h1
  · rw [he 1000000 (by omega)]; exact h2
  · rw [he 1000001 (by omega)]; exact h3
  · rw [he 1000001 (by omega)]; exact h4
  · rw [he 1000002 (by omega)]; exact h5
  · rw [he 1000003 (by omega)]; exact h7
  · rw [he (1000010 + i) (by omega), he (1000030 + i) (by omega)]; exact h8 i hi
theorem zBase_moved {C : zC} {ad ad' : Nat → Nat} {s U : State} {H : Heap} {locs : List Loc} (h : zBase C ad s) (hS : va_S (zA C) s.heap H locs) (hU : U.heap = H) (hW : s.WarmedH U.vm) (he : ∀ i, 1000000 ≤ i → ad' i = ad i) : zBase C ad' U := by
  obtain ⟨h1, h2, h3, h4, h5⟩ := h
  refine ⟨va_K.moved hW.alike h1, ?_, fun i hi => ?_, ?_, zNst_warm hW h5⟩
  · rw [hU]
    exact zOld_ad (zOld_kept (zOld_moved hW.alike h2) hS.2.1) he
  · rw [he (1000010 + i) (by omega)]
    exact (h3 i hi).warm hW
  · rw [hU]
    exact Nat.le_trans h4 hS.1
theorem zBase_calling {C : zC} {ad : Nat → Nat} {U : State} {g : JFrame} {mk : MethodId} {a : Array Value} (h : zBase C ad U) : zBase C ad (U.calling g mk a) := by
  obtain ⟨h1, h2, h3, h4, h5⟩ := h
  exact ⟨va_K.moved (u := U) (U := U.calling g mk a) (Vm.Alike.refl U.vm) h1, zOld_moved (u := U) (U := U.calling g mk a) (Vm.Alike.refl U.vm) h2, fun i hi => (h3 i hi).same rfl, h4, zNst_same (s := U) (U := U.calling g mk a) rfl h5⟩
def zPc (C : zC) (ad : Nat → Nat) (av : List Value) (h : zH) : Array Value → State → Prop := fun a U => a = (av.map (zv ad)).toArray ∧ zWd C ad h U.heap ∧ zBase C ad U
def zQc (C : zC) (ad : Nat → Nat) (h : zH) (mc : Nat) (R : Option Value → zH → Prop) : Array Value → State → Outcome → State → Prop := fun _ st o t =>
  (∃ (v : Option Value) (h' : zH) (ad' : Nat → Nat), o = .returned (v.map (zv ad')) ∧ (mc = 0 → ad' = ad) ∧ (∀ i, (i < zn h ∨ 1000000 ≤ i) → ad' i = ad i) ∧ zn h ≤ zn h' ∧ zWd C ad' h' t.heap ∧ R v h') ∧ va_F (zA C) st t
def zrm (d mc ms : Nat) : Room := { frames := d, cells := mc, slots := ms, locals := 40 * d }
/-- METHOD Y, called over av and h: it returns with R -/
def CallSem (C : zC) (Y : zY) (d mc ms : Nat) (av : List Value) (h : zH) (R : Option Value → zH → Prop) : Prop :=
  ∀ (l : Launch) (ad : Nat → Nat), Met l Y.1 (zWs Y) (zrm d mc ms) (zPc C ad av h) (zQc C ad h mc R) mc ms (zA C)
abbrev zQ : Type := (Nat → Nat) → List Frame → Array Value → State → State → Prop
def zFix (Y : zY) (p : Program) (s : State) (m : MethodId) (args : Array Value) (meth : Method) (c : Code) : Prop :=
  p.tables.exec = Jvm.exec ∧ c.code = Y.2.1 ∧ c.maxLocals = Y.2.2.1 ∧ s.vm.findClass Y.1.cls = some m.cls ∧ (∀ w ∈ zT, w.before args s = true) ∧ meth.sig.returnType = Y.2.2.2 ∧ meth.locks = false ∧ meth.name = Y.1.name
/-- inside method Y, at pc: it comes to Q -/
def Sem (C : zC) (Q : zQ) (n0 : Nat) (Y : zY) (rm : Room) (pc : Nat) (lv : List (Nat × Value)) (st : List Value) (h : zH) (cl sl : Nat) : Prop :=
  ∀ (ad0 : Nat → Nat) (p : Program) (l : Launch) (e : Env) (s : State) (m : MethodId) (args : Array Value) (below : List Frame) (meth : Method) (c : Code), zFix Y p s m args meth c → zBase C ad0 s →
    ∀ (ad : Nat → Nat) (H : Heap) (locs : List Loc) (ls : Array Slot), (∀ i, (i < n0 ∨ 1000000 ≤ i) → ad i = ad0 i) → (cl = 0 → ad = ad0) → n0 ≤ zn h → zWd C ad h H → va_S (zA C) s.heap H locs → lv_has ls Y.2.2.1 (lv.map (zl ad)) →
      W p l e rm s m args below meth c H locs cl sl (Q ad0 below args s) (F0 m pc ls (st.map (zv ad)))
def zQm (C : zC) (h0 : zH) (mc ms : Nat) (R : Option Value → zH → Prop) : zQ := fun ad0 below args s => MQ below (zQc C ad0 h0 mc R) args s mc ms (zA C)
theorem lv_args_zv (ad : Nat → Nat) : ∀ (av : List Value) (k : Nat), lv_args k (av.map (zv ad)) = (lv_args k av).map (zl ad)
  | [], k => rfl
  | v :: vs, k => by
    show (k, zv ad v) :: lv_args (if (zv ad v).category = 2 then k + 2 else k + 1) (vs.map (zv ad)) = (k, zv ad v) :: (lv_args (if v.category = 2 then k + 2 else k + 1) vs).map (zl ad)
    rw [zv_cat, lv_args_zv ad vs]
theorem lg_sl_len (ad : Nat → Nat) (av : List Value) : (lg_sl (av.map (zv ad))).length = (lg_sl av).length := by
  induction av with
  | nil => rfl
  | cons v vs ih =>
    have e : ∀ (w : Value) (ws : List Value), (lg_sl (w :: ws)).length = (if w.category = 2 then 2 else 1) + (lg_sl ws).length := fun w ws => by
      unfold lg_sl
      rw [List.flatMap_cons, List.length_append]
      split <;> rfl
    show (lg_sl (zv ad v :: vs.map (zv ad))).length = _
    rw [e, e, ih, zv_cat]
theorem S_enter {C : zC} {Y : zY} {d mc ms : Nat} {av : List Value} {h : zH} {R : Option Value → zH → Prop} (hY : plainName Y.1.cls = true) (hl : (lg_sl av).length ≤ Y.2.2.1)
    (k : Sem C (zQm C h mc ms R) (zn h) Y (zrm d mc ms) 0 (lv_args 0 av) [] h 0 0) : CallSem C Y d mc ms av h R := by
  intro l ad
  refine Met.ofW (cc := Y.2.1) (maxL := Y.2.2.1) (ret := Y.2.2.2) hY rfl ?_
  intro p e s m args below meth c s₁ B hml hv
  obtain ⟨rfl, hWd, hBs⟩ := hv
  have hts := atoms_spec (ws := zWs Y) B.pre
  rw [lg_entry_eq]
  refine k ad p l e s m _ below meth c ⟨B.exec, B.bytes, hml, findClass_of_methodNamed B.named, fun w hw => hts w (List.mem_cons_of_mem _ hw), B.returns, B.notSynchronized, (name_of_methodNamed B.named B.method).1⟩ hBs ad s.heap [] _ (fun _ _ => rfl) (fun _ => rfl) (Nat.le_refl _) hWd va_S.rf ?_
  rw [← lv_args_zv]
  exact lv_entry _ (by rw [lg_sl_len]; exact hl)
end
section
section ZR
variable {C : zC} {Q : zQ} {n0 : Nat} {Y : zY} {rm : Room} {pc : Nat} {lv : List (Nat × Value)} {st : List Value} {h : zH} {cl sl : Nat}
theorem S_iadd {x y : Int32} (hd : decode Y.2.1 pc = .ok (.iadd, 1)) (k : Sem C Q n0 Y rm (pc + 1) lv (.int (x + y) :: st) h cl sl) : Sem C Q n0 Y rm pc lv (.int y :: .int x :: st) h cl sl :=
  fun ad0 p l e s m args below meth c F B ad H locs ls a1 a2 a3 a4 a5 a6 => lv_iadd F.1 F.2.1 hd (k ad0 p l e s m args below meth c F B ad H locs ls a1 a2 a3 a4 a5 a6)
theorem S_isub {x y : Int32} (hd : decode Y.2.1 pc = .ok (.isub, 1)) (k : Sem C Q n0 Y rm (pc + 1) lv (.int (x - y) :: st) h cl sl) : Sem C Q n0 Y rm pc lv (.int y :: .int x :: st) h cl sl :=
  fun ad0 p l e s m args below meth c F B ad H locs ls a1 a2 a3 a4 a5 a6 => lv_isub F.1 F.2.1 hd (k ad0 p l e s m args below meth c F B ad H locs ls a1 a2 a3 a4 a5 a6)
theorem S_imul {x y : Int32} (hd : decode Y.2.1 pc = .ok (.imul, 1)) (k : Sem C Q n0 Y rm (pc + 1) lv (.int (x * y) :: st) h cl sl) : Sem C Q n0 Y rm pc lv (.int y :: .int x :: st) h cl sl :=
  fun ad0 p l e s m args below meth c F B ad H locs ls a1 a2 a3 a4 a5 a6 => lv_imul F.1 F.2.1 hd (k ad0 p l e s m args below meth c F B ad H locs ls a1 a2 a3 a4 a5 a6)
theorem S_iand {x y : Int32} (hd : decode Y.2.1 pc = .ok (.iand, 1)) (k : Sem C Q n0 Y rm (pc + 1) lv (.int (x &&& y) :: st) h cl sl) : Sem C Q n0 Y rm pc lv (.int y :: .int x :: st) h cl sl :=
  fun ad0 p l e s m args below meth c F B ad H locs ls a1 a2 a3 a4 a5 a6 => lv_iand F.1 F.2.1 hd (k ad0 p l e s m args below meth c F B ad H locs ls a1 a2 a3 a4 a5 a6)
theorem S_ior {x y : Int32} (hd : decode Y.2.1 pc = .ok (.ior, 1)) (k : Sem C Q n0 Y rm (pc + 1) lv (.int (x ||| y) :: st) h cl sl) : Sem C Q n0 Y rm pc lv (.int y :: .int x :: st) h cl sl :=
  fun ad0 p l e s m args below meth c F B ad H locs ls a1 a2 a3 a4 a5 a6 => lv_ior F.1 F.2.1 hd (k ad0 p l e s m args below meth c F B ad H locs ls a1 a2 a3 a4 a5 a6)
theorem S_ixor {x y : Int32} (hd : decode Y.2.1 pc = .ok (.ixor, 1)) (k : Sem C Q n0 Y rm (pc + 1) lv (.int (x ^^^ y) :: st) h cl sl) : Sem C Q n0 Y rm pc lv (.int y :: .int x :: st) h cl sl :=
  fun ad0 p l e s m args below meth c F B ad H locs ls a1 a2 a3 a4 a5 a6 => lv_ixor F.1 F.2.1 hd (k ad0 p l e s m args below meth c F B ad H locs ls a1 a2 a3 a4 a5 a6)
theorem S_ishl {x y : Int32} (hd : decode Y.2.1 pc = .ok (.ishl, 1)) (k : Sem C Q n0 Y rm (pc + 1) lv (.int (x <<< (y &&& 31)) :: st) h cl sl) : Sem C Q n0 Y rm pc lv (.int y :: .int x :: st) h cl sl :=
  fun ad0 p l e s m args below meth c F B ad H locs ls a1 a2 a3 a4 a5 a6 => lv_ishl F.1 F.2.1 hd (k ad0 p l e s m args below meth c F B ad H locs ls a1 a2 a3 a4 a5 a6)
theorem S_ishr {x y : Int32} (hd : decode Y.2.1 pc = .ok (.ishr, 1)) (k : Sem C Q n0 Y rm (pc + 1) lv (.int (x >>> (y &&& 31)) :: st) h cl sl) : Sem C Q n0 Y rm pc lv (.int y :: .int x :: st) h cl sl :=
  fun ad0 p l e s m args below meth c F B ad H locs ls a1 a2 a3 a4 a5 a6 => lv_ishr F.1 F.2.1 hd (k ad0 p l e s m args below meth c F B ad H locs ls a1 a2 a3 a4 a5 a6)
theorem S_iushr {x y : Int32} (hd : decode Y.2.1 pc = .ok (.iushr, 1)) (k : Sem C Q n0 Y rm (pc + 1) lv (.int ((x.toUInt32 >>> (y.toUInt32 &&& Int32.toUInt32 31)).toInt32) :: st) h cl sl) : Sem C Q n0 Y rm pc lv (.int y :: .int x :: st) h cl sl :=
  fun ad0 p l e s m args below meth c F B ad H locs ls a1 a2 a3 a4 a5 a6 => lv_iushr F.1 F.2.1 hd rfl (k ad0 p l e s m args below meth c F B ad H locs ls a1 a2 a3 a4 a5 a6)
theorem S_idiv {x y : Int32} (hd : decode Y.2.1 pc = .ok (.idiv, 1)) (hne : ¬ y = 0) (k : Sem C Q n0 Y rm (pc + 1) lv (.int (x / y) :: st) h cl sl) : Sem C Q n0 Y rm pc lv (.int y :: .int x :: st) h cl sl :=
  fun ad0 p l e s m args below meth c F B ad H locs ls a1 a2 a3 a4 a5 a6 => lv_idiv F.1 F.2.1 hd hne (k ad0 p l e s m args below meth c F B ad H locs ls a1 a2 a3 a4 a5 a6)
theorem S_irem {x y : Int32} (hd : decode Y.2.1 pc = .ok (.irem, 1)) (hne : ¬ y = 0) (k : Sem C Q n0 Y rm (pc + 1) lv (.int (x - x / y * y) :: st) h cl sl) : Sem C Q n0 Y rm pc lv (.int y :: .int x :: st) h cl sl :=
  fun ad0 p l e s m args below meth c F B ad H locs ls a1 a2 a3 a4 a5 a6 => lv_irem F.1 F.2.1 hd hne (k ad0 p l e s m args below meth c F B ad H locs ls a1 a2 a3 a4 a5 a6)
theorem S_ineg {x : Int32} (hd : decode Y.2.1 pc = .ok (.ineg, 1)) (k : Sem C Q n0 Y rm (pc + 1) lv (.int (-x) :: st) h cl sl) : Sem C Q n0 Y rm pc lv (.int x :: st) h cl sl :=
  fun ad0 p l e s m args below meth c F B ad H locs ls a1 a2 a3 a4 a5 a6 => lv_ineg F.1 F.2.1 hd (k ad0 p l e s m args below meth c F B ad H locs ls a1 a2 a3 a4 a5 a6)
theorem S_ladd {x y : Int64} (hd : decode Y.2.1 pc = .ok (.ladd, 1)) (k : Sem C Q n0 Y rm (pc + 1) lv (.long (x + y) :: st) h cl sl) : Sem C Q n0 Y rm pc lv (.long y :: .long x :: st) h cl sl :=
  fun ad0 p l e s m args below meth c F B ad H locs ls a1 a2 a3 a4 a5 a6 => lv_ladd F.1 F.2.1 hd (k ad0 p l e s m args below meth c F B ad H locs ls a1 a2 a3 a4 a5 a6)
theorem S_lsub {x y : Int64} (hd : decode Y.2.1 pc = .ok (.lsub, 1)) (k : Sem C Q n0 Y rm (pc + 1) lv (.long (x - y) :: st) h cl sl) : Sem C Q n0 Y rm pc lv (.long y :: .long x :: st) h cl sl :=
  fun ad0 p l e s m args below meth c F B ad H locs ls a1 a2 a3 a4 a5 a6 => lv_lsub F.1 F.2.1 hd (k ad0 p l e s m args below meth c F B ad H locs ls a1 a2 a3 a4 a5 a6)
theorem S_land {x y : Int64} (hd : decode Y.2.1 pc = .ok (.land, 1)) (k : Sem C Q n0 Y rm (pc + 1) lv (.long (x &&& y) :: st) h cl sl) : Sem C Q n0 Y rm pc lv (.long y :: .long x :: st) h cl sl :=
  fun ad0 p l e s m args below meth c F B ad H locs ls a1 a2 a3 a4 a5 a6 => lv_land F.1 F.2.1 hd (k ad0 p l e s m args below meth c F B ad H locs ls a1 a2 a3 a4 a5 a6)
theorem S_lor {x y : Int64} (hd : decode Y.2.1 pc = .ok (.lor, 1)) (k : Sem C Q n0 Y rm (pc + 1) lv (.long (x ||| y) :: st) h cl sl) : Sem C Q n0 Y rm pc lv (.long y :: .long x :: st) h cl sl :=
  fun ad0 p l e s m args below meth c F B ad H locs ls a1 a2 a3 a4 a5 a6 => lv_lor F.1 F.2.1 hd (k ad0 p l e s m args below meth c F B ad H locs ls a1 a2 a3 a4 a5 a6)
theorem S_ldiv {x y : Int64} (hd : decode Y.2.1 pc = .ok (.ldiv, 1)) (hne : ¬ y = 0) (k : Sem C Q n0 Y rm (pc + 1) lv (.long (x / y) :: st) h cl sl) : Sem C Q n0 Y rm pc lv (.long y :: .long x :: st) h cl sl :=
  fun ad0 p l e s m args below meth c F B ad H locs ls a1 a2 a3 a4 a5 a6 => lv_ldiv F.1 F.2.1 hd hne (k ad0 p l e s m args below meth c F B ad H locs ls a1 a2 a3 a4 a5 a6)
theorem S_lrem {x y : Int64} (hd : decode Y.2.1 pc = .ok (.lrem, 1)) (hne : ¬ y = 0) (k : Sem C Q n0 Y rm (pc + 1) lv (.long (x - x / y * y) :: st) h cl sl) : Sem C Q n0 Y rm pc lv (.long y :: .long x :: st) h cl sl :=
  fun ad0 p l e s m args below meth c F B ad H locs ls a1 a2 a3 a4 a5 a6 => lv_lrem F.1 F.2.1 hd hne (k ad0 p l e s m args below meth c F B ad H locs ls a1 a2 a3 a4 a5 a6)
theorem S_lshl {x : Int64} {y : Int32} (hd : decode Y.2.1 pc = .ok (.lshl, 1)) (k : Sem C Q n0 Y rm (pc + 1) lv (.long (x <<< (y.toInt64 &&& 63)) :: st) h cl sl) : Sem C Q n0 Y rm pc lv (.int y :: .long x :: st) h cl sl :=
  fun ad0 p l e s m args below meth c F B ad H locs ls a1 a2 a3 a4 a5 a6 => lv_lshl F.1 F.2.1 hd rfl (k ad0 p l e s m args below meth c F B ad H locs ls a1 a2 a3 a4 a5 a6)
theorem S_lcmp {x y : Int64} (hd : decode Y.2.1 pc = .ok (.lcmp, 1)) (k : Sem C Q n0 Y rm (pc + 1) lv (.int (lg_cmp x y) :: st) h cl sl) : Sem C Q n0 Y rm pc lv (.long y :: .long x :: st) h cl sl :=
  fun ad0 p l e s m args below meth c F B ad H locs ls a1 a2 a3 a4 a5 a6 => W.lcmp F.1 F.2.1 hd (k ad0 p l e s m args below meth c F B ad H locs ls a1 a2 a3 a4 a5 a6)
theorem S_i2l {x : Int32} (hd : decode Y.2.1 pc = .ok (.i2l, 1)) (k : Sem C Q n0 Y rm (pc + 1) lv (.long x.toInt64 :: st) h cl sl) : Sem C Q n0 Y rm pc lv (.int x :: st) h cl sl :=
  fun ad0 p l e s m args below meth c F B ad H locs ls a1 a2 a3 a4 a5 a6 => lv_i2l F.1 F.2.1 hd rfl (k ad0 p l e s m args below meth c F B ad H locs ls a1 a2 a3 a4 a5 a6)
theorem S_l2i {x : Int64} (hd : decode Y.2.1 pc = .ok (.l2i, 1)) (k : Sem C Q n0 Y rm (pc + 1) lv (.int x.toInt32 :: st) h cl sl) : Sem C Q n0 Y rm pc lv (.long x :: st) h cl sl :=
  fun ad0 p l e s m args below meth c F B ad H locs ls a1 a2 a3 a4 a5 a6 => lv_l2i F.1 F.2.1 hd rfl (k ad0 p l e s m args below meth c F B ad H locs ls a1 a2 a3 a4 a5 a6)
theorem S_i2b {x : Int32} (hd : decode Y.2.1 pc = .ok (.i2b, 1)) (k : Sem C Q n0 Y rm (pc + 1) lv (.int x.toInt8.toInt32 :: st) h cl sl) : Sem C Q n0 Y rm pc lv (.int x :: st) h cl sl :=
  fun ad0 p l e s m args below meth c F B ad H locs ls a1 a2 a3 a4 a5 a6 => lv_i2b F.1 F.2.1 hd rfl (k ad0 p l e s m args below meth c F B ad H locs ls a1 a2 a3 a4 a5 a6)
theorem S_i2s {x : Int32} (hd : decode Y.2.1 pc = .ok (.i2s, 1)) (k : Sem C Q n0 Y rm (pc + 1) lv (.int x.toInt16.toInt32 :: st) h cl sl) : Sem C Q n0 Y rm pc lv (.int x :: st) h cl sl :=
  fun ad0 p l e s m args below meth c F B ad H locs ls a1 a2 a3 a4 a5 a6 => lv_i2s F.1 F.2.1 hd rfl (k ad0 p l e s m args below meth c F B ad H locs ls a1 a2 a3 a4 a5 a6)
theorem S_i2c {x : Int32} (hd : decode Y.2.1 pc = .ok (.i2c, 1)) (k : Sem C Q n0 Y rm (pc + 1) lv (.int (x.toUInt32 % 65536).toInt32 :: st) h cl sl) : Sem C Q n0 Y rm pc lv (.int x :: st) h cl sl :=
  fun ad0 p l e s m args below meth c F B ad H locs ls a1 a2 a3 a4 a5 a6 => lv_i2c F.1 F.2.1 hd rfl (k ad0 p l e s m args below meth c F B ad H locs ls a1 a2 a3 a4 a5 a6)
theorem S_iconst {n : Int} {v : Int32} (hd : decode Y.2.1 pc = .ok (.iconst n, 1)) (hv : Int32.ofInt n = v) (k : Sem C Q n0 Y rm (pc + 1) lv (.int v :: st) h cl sl) : Sem C Q n0 Y rm pc lv st h cl sl :=
  fun ad0 p l e s m args below meth c F B ad H locs ls a1 a2 a3 a4 a5 a6 => lv_iconst F.1 F.2.1 hd hv (k ad0 p l e s m args below meth c F B ad H locs ls a1 a2 a3 a4 a5 a6)
theorem S_bipush {n : Int} {v : Int32} (hd : decode Y.2.1 pc = .ok (.bipush n, 2)) (hv : (Int8.ofInt n).toInt32 = v) (k : Sem C Q n0 Y rm (pc + 2) lv (.int v :: st) h cl sl) : Sem C Q n0 Y rm pc lv st h cl sl :=
  fun ad0 p l e s m args below meth c F B ad H locs ls a1 a2 a3 a4 a5 a6 => lv_bipush F.1 F.2.1 hd hv (k ad0 p l e s m args below meth c F B ad H locs ls a1 a2 a3 a4 a5 a6)
theorem S_sipush {n : Int} {v : Int32} (hd : decode Y.2.1 pc = .ok (.sipush n, 3)) (hv : (Int16.ofInt n).toInt32 = v) (k : Sem C Q n0 Y rm (pc + 3) lv (.int v :: st) h cl sl) : Sem C Q n0 Y rm pc lv st h cl sl :=
  fun ad0 p l e s m args below meth c F B ad H locs ls a1 a2 a3 a4 a5 a6 => lv_sipush F.1 F.2.1 hd hv (k ad0 p l e s m args below meth c F B ad H locs ls a1 a2 a3 a4 a5 a6)
theorem S_lconst {n : Fin 2} {v : Int64} (hd : decode Y.2.1 pc = .ok (.lconst n, 1)) (hv : Int64.ofNat (n : Nat) = v) (k : Sem C Q n0 Y rm (pc + 1) lv (.long v :: st) h cl sl) : Sem C Q n0 Y rm pc lv st h cl sl :=
  fun ad0 p l e s m args below meth c F B ad H locs ls a1 a2 a3 a4 a5 a6 => lv_lconst F.1 F.2.1 hd hv (k ad0 p l e s m args below meth c F B ad H locs ls a1 a2 a3 a4 a5 a6)
theorem S_dup {v : Value} (hd : decode Y.2.1 pc = .ok (.dup, 1)) (hc : v.category = 1) (k : Sem C Q n0 Y rm (pc + 1) lv (v :: v :: st) h cl sl) : Sem C Q n0 Y rm pc lv (v :: st) h cl sl :=
  fun ad0 p l e s m args below meth c F B ad H locs ls a1 a2 a3 a4 a5 a6 => lv_dup F.1 F.2.1 hd (by rw [zv_cat]; exact hc) (k ad0 p l e s m args below meth c F B ad H locs ls a1 a2 a3 a4 a5 a6)
theorem S_dup_x1 {v w : Value} (hd : decode Y.2.1 pc = .ok (.dup_x1, 1)) (hc : v.category = 1) (hc2 : w.category = 1) (k : Sem C Q n0 Y rm (pc + 1) lv (v :: w :: v :: st) h cl sl) : Sem C Q n0 Y rm pc lv (v :: w :: st) h cl sl :=
  fun ad0 p l e s m args below meth c F B ad H locs ls a1 a2 a3 a4 a5 a6 => lv_dup_x1 F.1 F.2.1 hd (by rw [zv_cat]; exact hc) (by rw [zv_cat]; exact hc2) (k ad0 p l e s m args below meth c F B ad H locs ls a1 a2 a3 a4 a5 a6)
theorem S_dup2 {v w : Value} (hd : decode Y.2.1 pc = .ok (.dup2, 1)) (hc : v.category = 1) (hc2 : w.category = 1) (k : Sem C Q n0 Y rm (pc + 1) lv (v :: w :: v :: w :: st) h cl sl) : Sem C Q n0 Y rm pc lv (v :: w :: st) h cl sl :=
  fun ad0 p l e s m args below meth c F B ad H locs ls a1 a2 a3 a4 a5 a6 => lv_dup2_11 F.1 F.2.1 hd (by rw [zv_cat]; exact hc) (by rw [zv_cat]; exact hc2) (k ad0 p l e s m args below meth c F B ad H locs ls a1 a2 a3 a4 a5 a6)
theorem zl_at {ad : Nat → Nat} {lv : List (Nat × Value)} {ls : Array Slot} {nL : Nat} (h : lv_has ls nL (lv.map (zl ad))) (j : Nat) {i : Nat} {v : Value} (hk : lv[j]? = some (i, v)) : ls[i]? = some (.val (zv ad v)) := lv_at h j (by rw [List.getElem?_map, hk]; rfl)
theorem S_iload_n {n : Fin 4} {i : Nat} {x : Int32} (j : Nat) (hd : decode Y.2.1 pc = .ok (.iload_n n, 1)) (hi : (n : Nat) = i) (hj : lv[j]? = some (i, .int x)) (k : Sem C Q n0 Y rm (pc + 1) lv (.int x :: st) h cl sl) : Sem C Q n0 Y rm pc lv st h cl sl :=
  fun ad0 p l e s m args below meth c F B ad H locs ls a1 a2 a3 a4 a5 a6 => lv_iload_n F.1 F.2.1 hd hi (zl_at a6 j hj) (k ad0 p l e s m args below meth c F B ad H locs ls a1 a2 a3 a4 a5 a6)
theorem S_iload {i : Nat} {x : Int32} (j : Nat) (hd : decode Y.2.1 pc = .ok (.iload i, 2)) (hj : lv[j]? = some (i, .int x)) (k : Sem C Q n0 Y rm (pc + 2) lv (.int x :: st) h cl sl) : Sem C Q n0 Y rm pc lv st h cl sl :=
  fun ad0 p l e s m args below meth c F B ad H locs ls a1 a2 a3 a4 a5 a6 => lv_iload F.1 F.2.1 hd (zl_at a6 j hj) (k ad0 p l e s m args below meth c F B ad H locs ls a1 a2 a3 a4 a5 a6)
theorem S_lload_n {n : Fin 4} {i : Nat} {x : Int64} (j : Nat) (hd : decode Y.2.1 pc = .ok (.lload_n n, 1)) (hi : (n : Nat) = i) (hj : lv[j]? = some (i, .long x)) (k : Sem C Q n0 Y rm (pc + 1) lv (.long x :: st) h cl sl) : Sem C Q n0 Y rm pc lv st h cl sl :=
  fun ad0 p l e s m args below meth c F B ad H locs ls a1 a2 a3 a4 a5 a6 => lv_lload_n F.1 F.2.1 hd hi (zl_at a6 j hj) (k ad0 p l e s m args below meth c F B ad H locs ls a1 a2 a3 a4 a5 a6)
theorem S_lload {i : Nat} {x : Int64} (j : Nat) (hd : decode Y.2.1 pc = .ok (.lload i, 2)) (hj : lv[j]? = some (i, .long x)) (k : Sem C Q n0 Y rm (pc + 2) lv (.long x :: st) h cl sl) : Sem C Q n0 Y rm pc lv st h cl sl :=
  fun ad0 p l e s m args below meth c F B ad H locs ls a1 a2 a3 a4 a5 a6 => lv_lload F.1 F.2.1 hd (zl_at a6 j hj) (k ad0 p l e s m args below meth c F B ad H locs ls a1 a2 a3 a4 a5 a6)
theorem S_aload_n {n : Fin 4} {i : Nat} {x : Nat} (j : Nat) (hd : decode Y.2.1 pc = .ok (.aload_n n, 1)) (hi : (n : Nat) = i) (hj : lv[j]? = some (i, .ref x)) (k : Sem C Q n0 Y rm (pc + 1) lv (.ref x :: st) h cl sl) : Sem C Q n0 Y rm pc lv st h cl sl :=
  fun ad0 p l e s m args below meth c F B ad H locs ls a1 a2 a3 a4 a5 a6 => lv_aload_n F.1 F.2.1 hd hi (zl_at a6 j hj) (k ad0 p l e s m args below meth c F B ad H locs ls a1 a2 a3 a4 a5 a6)
theorem S_aload {i : Nat} {x : Nat} (j : Nat) (hd : decode Y.2.1 pc = .ok (.aload i, 2)) (hj : lv[j]? = some (i, .ref x)) (k : Sem C Q n0 Y rm (pc + 2) lv (.ref x :: st) h cl sl) : Sem C Q n0 Y rm pc lv st h cl sl :=
  fun ad0 p l e s m args below meth c F B ad H locs ls a1 a2 a3 a4 a5 a6 => lv_aload F.1 F.2.1 hd (zl_at a6 j hj) (k ad0 p l e s m args below meth c F B ad H locs ls a1 a2 a3 a4 a5 a6)
def zst1 (lv : List (Nat × Value)) (i : Nat) (v : Value) : List (Nat × Value) := (i, v) :: lv.filter (fun q => !(q.1 == i) && !(q.1 + 1 == i && q.2.category == 2))
def zst2 (lv : List (Nat × Value)) (i : Nat) (v : Value) : List (Nat × Value) := (i, v) :: lv.filter (fun q => !(q.1 == i) && (!(q.1 == i + 1) && !(q.1 + 1 == i && q.2.category == 2)))
theorem zst1_map (ad : Nat → Nat) (lv : List (Nat × Value)) (i : Nat) (v : Value) : (i, zv ad v) :: (lv.map (zl ad)).filter (fun q => !(q.1 == i) && !(q.1 + 1 == i && q.2.category == 2)) = (zst1 lv i v).map (zl ad) := by
  unfold zst1
  rw [List.map_cons, List.filter_map]
  congr 2
  apply List.filter_congr
  intro q _
  simp [zl, zv_cat, Function.comp]
theorem zst2_map (ad : Nat → Nat) (lv : List (Nat × Value)) (i : Nat) (v : Value) : (i, zv ad v) :: (lv.map (zl ad)).filter (fun q => !(q.1 == i) && (!(q.1 == i + 1) && !(q.1 + 1 == i && q.2.category == 2))) = (zst2 lv i v).map (zl ad) := by
  unfold zst2
  rw [List.map_cons, List.filter_map]
  congr 2
  apply List.filter_congr
  intro q _
  simp [zl, zv_cat, Function.comp]
theorem S_istore_n {n : Fin 4} {i : Nat} {x : Int32} {lv' : List (Nat × Value)} (hd : decode Y.2.1 pc = .ok (.istore_n n, 1)) (hi : (n : Nat) = i) (hn : i < Y.2.2.1) (hl : zst1 lv i (.int x) = lv') (k : Sem C Q n0 Y rm (pc + 1) lv' st h cl sl) : Sem C Q n0 Y rm pc lv (.int x :: st) h cl sl :=
  fun ad0 p l e s m args below meth c F B ad H locs ls a1 a2 a3 a4 a5 a6 => lv_istore_n F.1 F.2.1 hd hi a6 hn (zst1_map ad lv i (.int x)) (fun ls' b6 => k ad0 p l e s m args below meth c F B ad H locs ls' a1 a2 a3 a4 a5 (hl ▸ b6))
theorem S_istore {i : Nat} {x : Int32} {lv' : List (Nat × Value)} (hd : decode Y.2.1 pc = .ok (.istore i, 2)) (hn : i < Y.2.2.1) (hl : zst1 lv i (.int x) = lv') (k : Sem C Q n0 Y rm (pc + 2) lv' st h cl sl) : Sem C Q n0 Y rm pc lv (.int x :: st) h cl sl :=
  fun ad0 p l e s m args below meth c F B ad H locs ls a1 a2 a3 a4 a5 a6 => lv_istore F.1 F.2.1 hd a6 hn (zst1_map ad lv i (.int x)) (fun ls' b6 => k ad0 p l e s m args below meth c F B ad H locs ls' a1 a2 a3 a4 a5 (hl ▸ b6))
theorem S_lstore_n {n : Fin 4} {i : Nat} {x : Int64} {lv' : List (Nat × Value)} (hd : decode Y.2.1 pc = .ok (.lstore_n n, 1)) (hi : (n : Nat) = i) (hn : i + 1 < Y.2.2.1) (hl : zst2 lv i (.long x) = lv') (k : Sem C Q n0 Y rm (pc + 1) lv' st h cl sl) : Sem C Q n0 Y rm pc lv (.long x :: st) h cl sl :=
  fun ad0 p l e s m args below meth c F B ad H locs ls a1 a2 a3 a4 a5 a6 => lv_lstore_n F.1 F.2.1 hd hi a6 hn (zst2_map ad lv i (.long x)) (fun ls' b6 => k ad0 p l e s m args below meth c F B ad H locs ls' a1 a2 a3 a4 a5 (hl ▸ b6))
theorem S_lstore {i : Nat} {x : Int64} {lv' : List (Nat × Value)} (hd : decode Y.2.1 pc = .ok (.lstore i, 2)) (hn : i + 1 < Y.2.2.1) (hl : zst2 lv i (.long x) = lv') (k : Sem C Q n0 Y rm (pc + 2) lv' st h cl sl) : Sem C Q n0 Y rm pc lv (.long x :: st) h cl sl :=
  fun ad0 p l e s m args below meth c F B ad H locs ls a1 a2 a3 a4 a5 a6 => lv_lstore F.1 F.2.1 hd a6 hn (zst2_map ad lv i (.long x)) (fun ls' b6 => k ad0 p l e s m args below meth c F B ad H locs ls' a1 a2 a3 a4 a5 (hl ▸ b6))
theorem S_astore_n {n : Fin 4} {i : Nat} {x : Nat} {lv' : List (Nat × Value)} (hd : decode Y.2.1 pc = .ok (.astore_n n, 1)) (hi : (n : Nat) = i) (hn : i < Y.2.2.1) (hl : zst1 lv i (.ref x) = lv') (k : Sem C Q n0 Y rm (pc + 1) lv' st h cl sl) : Sem C Q n0 Y rm pc lv (.ref x :: st) h cl sl :=
  fun ad0 p l e s m args below meth c F B ad H locs ls a1 a2 a3 a4 a5 a6 => lv_astore_n F.1 F.2.1 hd hi a6 hn (zst1_map ad lv i (.ref x)) (fun ls' b6 => k ad0 p l e s m args below meth c F B ad H locs ls' a1 a2 a3 a4 a5 (hl ▸ b6))
theorem S_astore {i : Nat} {x : Nat} {lv' : List (Nat × Value)} (hd : decode Y.2.1 pc = .ok (.astore i, 2)) (hn : i < Y.2.2.1) (hl : zst1 lv i (.ref x) = lv') (k : Sem C Q n0 Y rm (pc + 2) lv' st h cl sl) : Sem C Q n0 Y rm pc lv (.ref x :: st) h cl sl :=
  fun ad0 p l e s m args below meth c F B ad H locs ls a1 a2 a3 a4 a5 a6 => lv_astore F.1 F.2.1 hd a6 hn (zst1_map ad lv i (.ref x)) (fun ls' b6 => k ad0 p l e s m args below meth c F B ad H locs ls' a1 a2 a3 a4 a5 (hl ▸ b6))
theorem S_iinc {i : Nat} {n : Int} {x v : Int32} {lv' : List (Nat × Value)} (j : Nat) (hd : decode Y.2.1 pc = .ok (.iinc i n, 3)) (hj : lv[j]? = some (i, .int x)) (hv : x + Int32.ofInt n = v) (hn : i < Y.2.2.1) (hl : zst1 lv i (.int v) = lv') (k : Sem C Q n0 Y rm (pc + 3) lv' st h cl sl) : Sem C Q n0 Y rm pc lv st h cl sl :=
  fun ad0 p l e s m args below meth c F B ad H locs ls a1 a2 a3 a4 a5 a6 => lv_iinc (k := j) F.1 F.2.1 hd a6 (by rw [List.getElem?_map, hj]; rfl) hv hn (zst1_map ad lv i (.int v)) (fun ls' b6 => k ad0 p l e s m args below meth c F B ad H locs ls' a1 a2 a3 a4 a5 (hl ▸ b6))
/-- fewer locals, in another order -/
theorem S_sub {lv' : List (Nat × Value)} (js : List Nat) (hl : lv_pick lv js = lv') (k : Sem C Q n0 Y rm pc lv' st h cl sl) : Sem C Q n0 Y rm pc lv st h cl sl :=
  fun ad0 p l e s m args below meth c F B ad H locs ls a1 a2 a3 a4 a5 a6 => k ad0 p l e s m args below meth c F B ad H locs ls a1 a2 a3 a4 a5 (lv_sub a6 js (by subst hl; unfold lv_pick; rw [List.map_filterMap]; congr 1; funext j; rw [List.getElem?_map]))
theorem S_if_eq {x : Int32} {off : Int} {tgt : Nat} (hd : decode Y.2.1 pc = .ok (.ifCond .eq off, 3)) (ht : (pc : Int) + off = (tgt : Int)) (kt : x = 0 → Sem C Q n0 Y rm tgt lv st h cl sl) (kf : ¬ (x = 0) → Sem C Q n0 Y rm (pc + 3) lv st h cl sl) : Sem C Q n0 Y rm pc lv (.int x :: st) h cl sl :=
  fun ad0 p l e s m args below meth c F B ad H locs ls a1 a2 a3 a4 a5 a6 => lv_if_eq F.1 F.2.1 hd ht (fun q => kt q ad0 p l e s m args below meth c F B ad H locs ls a1 a2 a3 a4 a5 a6) (fun q => kf q ad0 p l e s m args below meth c F B ad H locs ls a1 a2 a3 a4 a5 a6)
theorem S_icmp_eq {x y : Int32} {off : Int} {tgt : Nat} (hd : decode Y.2.1 pc = .ok (.if_icmp .eq off, 3)) (ht : (pc : Int) + off = (tgt : Int)) (kt : x = y → Sem C Q n0 Y rm tgt lv st h cl sl) (kf : ¬ (x = y) → Sem C Q n0 Y rm (pc + 3) lv st h cl sl) : Sem C Q n0 Y rm pc lv (.int y :: .int x :: st) h cl sl :=
  fun ad0 p l e s m args below meth c F B ad H locs ls a1 a2 a3 a4 a5 a6 => lv_icmp_eq F.1 F.2.1 hd ht (fun q => kt q ad0 p l e s m args below meth c F B ad H locs ls a1 a2 a3 a4 a5 a6) (fun q => kf q ad0 p l e s m args below meth c F B ad H locs ls a1 a2 a3 a4 a5 a6)
theorem S_if_ne {x : Int32} {off : Int} {tgt : Nat} (hd : decode Y.2.1 pc = .ok (.ifCond .ne off, 3)) (ht : (pc : Int) + off = (tgt : Int)) (kt : ¬ x = 0 → Sem C Q n0 Y rm tgt lv st h cl sl) (kf : x = 0 → Sem C Q n0 Y rm (pc + 3) lv st h cl sl) : Sem C Q n0 Y rm pc lv (.int x :: st) h cl sl :=
  fun ad0 p l e s m args below meth c F B ad H locs ls a1 a2 a3 a4 a5 a6 => lv_if_ne F.1 F.2.1 hd ht (fun q => kt q ad0 p l e s m args below meth c F B ad H locs ls a1 a2 a3 a4 a5 a6) (fun q => kf q ad0 p l e s m args below meth c F B ad H locs ls a1 a2 a3 a4 a5 a6)
theorem S_icmp_ne {x y : Int32} {off : Int} {tgt : Nat} (hd : decode Y.2.1 pc = .ok (.if_icmp .ne off, 3)) (ht : (pc : Int) + off = (tgt : Int)) (kt : ¬ x = y → Sem C Q n0 Y rm tgt lv st h cl sl) (kf : x = y → Sem C Q n0 Y rm (pc + 3) lv st h cl sl) : Sem C Q n0 Y rm pc lv (.int y :: .int x :: st) h cl sl :=
  fun ad0 p l e s m args below meth c F B ad H locs ls a1 a2 a3 a4 a5 a6 => lv_icmp_ne F.1 F.2.1 hd ht (fun q => kt q ad0 p l e s m args below meth c F B ad H locs ls a1 a2 a3 a4 a5 a6) (fun q => kf q ad0 p l e s m args below meth c F B ad H locs ls a1 a2 a3 a4 a5 a6)
theorem S_if_lt {x : Int32} {off : Int} {tgt : Nat} (hd : decode Y.2.1 pc = .ok (.ifCond .lt off, 3)) (ht : (pc : Int) + off = (tgt : Int)) (kt : x < 0 → Sem C Q n0 Y rm tgt lv st h cl sl) (kf : ¬ (x < 0) → Sem C Q n0 Y rm (pc + 3) lv st h cl sl) : Sem C Q n0 Y rm pc lv (.int x :: st) h cl sl :=
  fun ad0 p l e s m args below meth c F B ad H locs ls a1 a2 a3 a4 a5 a6 => lv_if_lt F.1 F.2.1 hd ht (fun q => kt q ad0 p l e s m args below meth c F B ad H locs ls a1 a2 a3 a4 a5 a6) (fun q => kf q ad0 p l e s m args below meth c F B ad H locs ls a1 a2 a3 a4 a5 a6)
theorem S_icmp_lt {x y : Int32} {off : Int} {tgt : Nat} (hd : decode Y.2.1 pc = .ok (.if_icmp .lt off, 3)) (ht : (pc : Int) + off = (tgt : Int)) (kt : x < y → Sem C Q n0 Y rm tgt lv st h cl sl) (kf : ¬ (x < y) → Sem C Q n0 Y rm (pc + 3) lv st h cl sl) : Sem C Q n0 Y rm pc lv (.int y :: .int x :: st) h cl sl :=
  fun ad0 p l e s m args below meth c F B ad H locs ls a1 a2 a3 a4 a5 a6 => lv_icmp_lt F.1 F.2.1 hd ht (fun q => kt q ad0 p l e s m args below meth c F B ad H locs ls a1 a2 a3 a4 a5 a6) (fun q => kf q ad0 p l e s m args below meth c F B ad H locs ls a1 a2 a3 a4 a5 a6)
theorem S_if_ge {x : Int32} {off : Int} {tgt : Nat} (hd : decode Y.2.1 pc = .ok (.ifCond .ge off, 3)) (ht : (pc : Int) + off = (tgt : Int)) (kt : 0 ≤ x → Sem C Q n0 Y rm tgt lv st h cl sl) (kf : ¬ (0 ≤ x) → Sem C Q n0 Y rm (pc + 3) lv st h cl sl) : Sem C Q n0 Y rm pc lv (.int x :: st) h cl sl :=
  fun ad0 p l e s m args below meth c F B ad H locs ls a1 a2 a3 a4 a5 a6 => lv_if_ge F.1 F.2.1 hd ht (fun q => kt q ad0 p l e s m args below meth c F B ad H locs ls a1 a2 a3 a4 a5 a6) (fun q => kf q ad0 p l e s m args below meth c F B ad H locs ls a1 a2 a3 a4 a5 a6)
theorem S_icmp_ge {x y : Int32} {off : Int} {tgt : Nat} (hd : decode Y.2.1 pc = .ok (.if_icmp .ge off, 3)) (ht : (pc : Int) + off = (tgt : Int)) (kt : y ≤ x → Sem C Q n0 Y rm tgt lv st h cl sl) (kf : ¬ (y ≤ x) → Sem C Q n0 Y rm (pc + 3) lv st h cl sl) : Sem C Q n0 Y rm pc lv (.int y :: .int x :: st) h cl sl :=
  fun ad0 p l e s m args below meth c F B ad H locs ls a1 a2 a3 a4 a5 a6 => lv_icmp_ge F.1 F.2.1 hd ht (fun q => kt q ad0 p l e s m args below meth c F B ad H locs ls a1 a2 a3 a4 a5 a6) (fun q => kf q ad0 p l e s m args below meth c F B ad H locs ls a1 a2 a3 a4 a5 a6)
theorem S_if_gt {x : Int32} {off : Int} {tgt : Nat} (hd : decode Y.2.1 pc = .ok (.ifCond .gt off, 3)) (ht : (pc : Int) + off = (tgt : Int)) (kt : 0 < x → Sem C Q n0 Y rm tgt lv st h cl sl) (kf : ¬ (0 < x) → Sem C Q n0 Y rm (pc + 3) lv st h cl sl) : Sem C Q n0 Y rm pc lv (.int x :: st) h cl sl :=
  fun ad0 p l e s m args below meth c F B ad H locs ls a1 a2 a3 a4 a5 a6 => lv_if_gt F.1 F.2.1 hd ht (fun q => kt q ad0 p l e s m args below meth c F B ad H locs ls a1 a2 a3 a4 a5 a6) (fun q => kf q ad0 p l e s m args below meth c F B ad H locs ls a1 a2 a3 a4 a5 a6)
theorem S_icmp_gt {x y : Int32} {off : Int} {tgt : Nat} (hd : decode Y.2.1 pc = .ok (.if_icmp .gt off, 3)) (ht : (pc : Int) + off = (tgt : Int)) (kt : y < x → Sem C Q n0 Y rm tgt lv st h cl sl) (kf : ¬ (y < x) → Sem C Q n0 Y rm (pc + 3) lv st h cl sl) : Sem C Q n0 Y rm pc lv (.int y :: .int x :: st) h cl sl :=
  fun ad0 p l e s m args below meth c F B ad H locs ls a1 a2 a3 a4 a5 a6 => lv_icmp_gt F.1 F.2.1 hd ht (fun q => kt q ad0 p l e s m args below meth c F B ad H locs ls a1 a2 a3 a4 a5 a6) (fun q => kf q ad0 p l e s m args below meth c F B ad H locs ls a1 a2 a3 a4 a5 a6)
theorem S_if_le {x : Int32} {off : Int} {tgt : Nat} (hd : decode Y.2.1 pc = .ok (.ifCond .le off, 3)) (ht : (pc : Int) + off = (tgt : Int)) (kt : x ≤ 0 → Sem C Q n0 Y rm tgt lv st h cl sl) (kf : ¬ (x ≤ 0) → Sem C Q n0 Y rm (pc + 3) lv st h cl sl) : Sem C Q n0 Y rm pc lv (.int x :: st) h cl sl :=
  fun ad0 p l e s m args below meth c F B ad H locs ls a1 a2 a3 a4 a5 a6 => lv_if_le F.1 F.2.1 hd ht (fun q => kt q ad0 p l e s m args below meth c F B ad H locs ls a1 a2 a3 a4 a5 a6) (fun q => kf q ad0 p l e s m args below meth c F B ad H locs ls a1 a2 a3 a4 a5 a6)
theorem S_icmp_le {x y : Int32} {off : Int} {tgt : Nat} (hd : decode Y.2.1 pc = .ok (.if_icmp .le off, 3)) (ht : (pc : Int) + off = (tgt : Int)) (kt : x ≤ y → Sem C Q n0 Y rm tgt lv st h cl sl) (kf : ¬ (x ≤ y) → Sem C Q n0 Y rm (pc + 3) lv st h cl sl) : Sem C Q n0 Y rm pc lv (.int y :: .int x :: st) h cl sl :=
  fun ad0 p l e s m args below meth c F B ad H locs ls a1 a2 a3 a4 a5 a6 => lv_icmp_le F.1 F.2.1 hd ht (fun q => kt q ad0 p l e s m args below meth c F B ad H locs ls a1 a2 a3 a4 a5 a6) (fun q => kf q ad0 p l e s m args below meth c F B ad H locs ls a1 a2 a3 a4 a5 a6)
theorem S_goto {off : Int} {tgt : Nat} (hd : decode Y.2.1 pc = .ok (.goto off, 3)) (ht : (pc : Int) + off = (tgt : Int)) (k : Sem C Q n0 Y rm tgt lv st h cl sl) : Sem C Q n0 Y rm pc lv st h cl sl :=
  fun ad0 p l e s m args below meth c F B ad H locs ls a1 a2 a3 a4 a5 a6 => lv_goto F.1 F.2.1 hd ht (k ad0 p l e s m args below meth c F B ad H locs ls a1 a2 a3 a4 a5 a6)
theorem S_tabOut {dflt lo hi : Int} {offs : Array Int} {len : Nat} {x : Int32} {tgt : Nat} (hd : decode Y.2.1 pc = .ok (.tableswitch dflt lo hi offs, len)) (hx : x.toInt < lo ∨ hi < x.toInt) (ht : (pc : Int) + dflt = (tgt : Int)) (k : Sem C Q n0 Y rm tgt lv st h cl sl) : Sem C Q n0 Y rm pc lv (.int x :: st) h cl sl :=
  fun ad0 p l e s m args below meth c F B ad H locs ls a1 a2 a3 a4 a5 a6 => lv_tableOut F.1 F.2.1 hd hx ht (k ad0 p l e s m args below meth c F B ad H locs ls a1 a2 a3 a4 a5 a6)
theorem S_tabIn {dflt lo hi : Int} {offs : Array Int} {len : Nat} {x : Int32} {off : Int} {tgt : Nat} (hd : decode Y.2.1 pc = .ok (.tableswitch dflt lo hi offs, len)) (h1 : ¬ x.toInt < lo) (h2 : ¬ hi < x.toInt) (ho : offs[(x.toInt - lo).toNat]? = some off) (ht : (pc : Int) + off = (tgt : Int)) (k : Sem C Q n0 Y rm tgt lv st h cl sl) : Sem C Q n0 Y rm pc lv (.int x :: st) h cl sl :=
  fun ad0 p l e s m args below meth c F B ad H locs ls a1 a2 a3 a4 a5 a6 => lv_tableIn F.1 F.2.1 hd h1 h2 ho ht (k ad0 p l e s m args below meth c F B ad H locs ls a1 a2 a3 a4 a5 a6)
theorem S_lookup {dflt : Int} {ps : Array (Int × Int)} {len : Nat} {x : Int32} {off : Int} {tgt : Nat} (hd : decode Y.2.1 pc = .ok (.lookupswitch dflt ps, len)) (hp : (ps.toList.zip (ps.toList.drop 1)).all (fun (a, next) => a.1 < next.1) = true) (ho : Op.lookupswitch.offset ps.toList dflt x.toInt = off) (ht : (pc : Int) + off = (tgt : Int)) (k : Sem C Q n0 Y rm tgt lv st h cl sl) : Sem C Q n0 Y rm pc lv (.int x :: st) h cl sl :=
  fun ad0 p l e s m args below meth c F B ad H locs ls a1 a2 a3 a4 a5 a6 => lv_lookup F.1 F.2.1 hd hp ho ht (k ad0 p l e s m args below meth c F B ad H locs ls a1 a2 a3 a4 a5 a6)
theorem S_ldc {index : Nat} {v : Int32} (hw : Cond.constant Y.1.cls index v ∈ zT) (hd : decode Y.2.1 pc = .ok (.ldc index, 2)) (k : Sem C Q n0 Y rm (pc + 2) lv (.int v :: st) h cl sl) : Sem C Q n0 Y rm pc lv st h cl sl :=
  fun ad0 p l e s m args below meth c F B ad H locs ls a1 a2 a3 a4 a5 a6 => lv_ldc F.1 F.2.1 F.2.2.2.1 (F.2.2.2.2.1 _ hw) hd (k ad0 p l e s m args below meth c F B ad H locs ls a1 a2 a3 a4 a5 a6)
theorem S_ldcw {index : Nat} {v : Int32} (hw : Cond.constant Y.1.cls index v ∈ zT) (hd : decode Y.2.1 pc = .ok (.ldc_w index, 3)) (k : Sem C Q n0 Y rm (pc + 3) lv (.int v :: st) h cl sl) : Sem C Q n0 Y rm pc lv st h cl sl :=
  fun ad0 p l e s m args below meth c F B ad H locs ls a1 a2 a3 a4 a5 a6 => lv_ldcw F.1 F.2.1 F.2.2.2.1 (F.2.2.2.2.1 _ hw) hd (k ad0 p l e s m args below meth c F B ad H locs ls a1 a2 a3 a4 a5 a6)
theorem S_ldc2 {index : Nat} {v : Int64} (hw : Cond.constantLong Y.1.cls index v ∈ zT) (hd : decode Y.2.1 pc = .ok (.ldc2_w index, 3)) (k : Sem C Q n0 Y rm (pc + 3) lv (.long v :: st) h cl sl) : Sem C Q n0 Y rm pc lv st h cl sl :=
  fun ad0 p l e s m args below meth c F B ad H locs ls a1 a2 a3 a4 a5 a6 => lv_ldc2 F.1 F.2.1 F.2.2.2.1 (F.2.2.2.2.1 _ hw) hd (k ad0 p l e s m args below meth c F B ad H locs ls a1 a2 a3 a4 a5 a6)
/-- the i-th literal -/
theorem S_ldcS (i : Nat) (hi : i < 10) {index : Nat} (hx : zsIx.getD i 0 = index) (ho : zsOw.getD i "" = Y.1.cls) (hd : decode Y.2.1 pc = .ok (.ldc index, 2)) (k : Sem C Q n0 Y rm (pc + 2) lv (.ref (1000010 + i) :: st) h cl sl) : Sem C Q n0 Y rm pc lv st h cl sl :=
  fun ad0 p l e s m args below meth c F B ad H locs ls a1 a2 a3 a4 a5 a6 => va_ldcS (tx := zsTx.getD i "") F.1 F.2.1 F.2.2.2.1 (by have q := B.2.2.1 i hi; rw [hx, ho, ← a1 (1000010 + i) (Or.inr (by omega))] at q; exact q) hd (k ad0 p l e s m args below meth c F B ad H locs ls a1 a2 a3 a4 a5 a6)
end ZR
end
section
/-! THE LAYER: fields, arrays, calls, ends -/
theorem zin : ∀ ci, ci < 12 → ∀ w ∈ u_ws (zR ci) (zTt ci) (zN ci), w ∈ zT := z12 (by decide +kernel) (by decide +kernel) (by decide +kernel) (by decide +kernel) (by decide +kernel) (by decide +kernel) (by decide +kernel) (by decide +kernel) (by decide +kernel) (by decide +kernel) (by decide +kernel) (by decide +kernel)
/-- own's pool entry idx is field j of class ci, of sort t -/
def zfl (own : String) (idx ci j t : Nat) : Prop := ci < 12 ∧ j < zN ci ∧ zf ci j = t ∧ Cond.fieldLink own idx (zTt ci j).1 (zTt ci j).2.1 (zTt ci j).2.2.1 ∈ zT
theorem zWd_lt {C : zC} {ad : Nat → Nat} {h : zH} {H : Heap} {a ci n : Nat} (hW : zWd C ad h H) (hs : zs h a = (ci, n)) (hc : ci < 99) : a < zn h := by
  rcases hW.2.2.2 a with q | q
  · exact q
  · rw [hs] at q
    exact absurd (Prod.mk.inj q).1 (Nat.ne_of_lt hc)
theorem zat_o {C : zC} {ad : Nat → Nat} {h : zH} {H : Heap} {a ci n : Nat} (hW : zWd C ad h H) (hs : zs h a = (ci, n)) (hc : ci < 12) : (zws C.2.2.1 ad h)[a]? = some (ad a, .inr (ci, (List.range (zN ci)).map (zfv ad h a ci))) := by
  rw [zws_at (zWd_lt hW hs (by omega)), zcell_o hs hc]
theorem zfs_at {ad : Nat → Nat} {h : zH} {a ci j : Nat} (hj : j < zN ci) : ((List.range (zN ci)).map (zfv ad h a ci))[j]? = some (zfv ad h a ci j) := by simp [hj]
theorem zfv_0 {ad : Nat → Nat} {h : zH} {a ci j : Nat} (e : zf ci j = 0) : zfv ad h a ci j = .int (zI h a j) := by unfold zfv; rw [e]; rfl
theorem zfv_1 {ad : Nat → Nat} {h : zH} {a ci j : Nat} (e : zf ci j = 1) : zfv ad h a ci j = .long (zL h a j) := by unfold zfv; rw [e]; rfl
theorem zfv_2 {ad : Nat → Nat} {h : zH} {a ci j : Nat} (e : zf ci j = 2) : zfv ad h a ci j = va_rf ((zP h a j).map ad) := by unfold zfv; rw [e]; rfl
theorem zfv_3 {ad : Nat → Nat} {h : zH} {a ci j : Nat} (e : zf ci j = 3) : zfv ad h a ci j = va_rf ((zM h a j).map ad) := by unfold zfv; rw [e]; rfl
theorem zfs_set {ad : Nat → Nat} {h h' : zH} {a ci j : Nat} {v : Value} (hj : zfv ad h' a ci j = v) (ho : ∀ i, i ≠ j → zfv ad h' a ci i = zfv ad h a ci i) : ((List.range (zN ci)).map (zfv ad h a ci)).set j v = (List.range (zN ci)).map (zfv ad h' a ci) := by
  apply List.ext_getElem?
  intro i
  rw [List.getElem?_set]
  by_cases hi : j = i
  · subst hi
    by_cases hl : j < zN ci
    · simp [hl, hj]
    · simp [hl]
  · rw [if_neg hi]
    by_cases hl : i < zN ci
    · simp [hl, ho i (fun q => hi q.symm)]
    · simp [hl]
theorem zWd_set {C : zC} {ad : Nat → Nat} {h h' : zH} {H H1 : Heap} {a : Nat} {e : va_E} (hW : zWd C ad h H) (hn : zn h' = zn h) (hz : zs h' = zs h) (he : zcell C.2.2.1 ad h' a = e) (ho : ∀ i, i ≠ a → zcell C.2.2.1 ad h' i = zcell C.2.2.1 ad h i)
    (hP : va_P C.2.1 zcls ((zws C.2.2.1 ad h).set a (ad a, e)) H1) (hD : va_D (zA C) ((zws C.2.2.1 ad h).set a (ad a, e))) : zWd C ad h' H1 := by
  rw [zws_set hn he ho] at hP hD
  exact ⟨hP, hD, by rw [hn]; exact hW.2.2.1, by rw [hn, hz]; exact hW.2.2.2⟩
theorem zcell_sI {cs : Nat → ClassId} {ad : Nat → Nat} {h : zH} {a j i : Nat} {x : Int32} (hi : i ≠ a) : zcell cs ad (zsI h a j x) i = zcell cs ad h i := zcell_eq rfl (u2_o _ _ _ hi) rfl rfl rfl
theorem zcell_sL {cs : Nat → ClassId} {ad : Nat → Nat} {h : zH} {a j i : Nat} {x : Int64} (hi : i ≠ a) : zcell cs ad (zsL h a j x) i = zcell cs ad h i := zcell_eq rfl rfl (u2_o _ _ _ hi) rfl rfl
theorem zcell_sP {cs : Nat → ClassId} {ad : Nat → Nat} {h : zH} {a j i : Nat} {x : Option Nat} (hi : i ≠ a) : zcell cs ad (zsP h a j x) i = zcell cs ad h i := zcell_eq rfl rfl rfl (u2_o _ _ _ hi) rfl
theorem zcell_sM {cs : Nat → ClassId} {ad : Nat → Nat} {h : zH} {a j i : Nat} {x : Option Nat} (hi : i ≠ a) : zcell cs ad (zsM h a j x) i = zcell cs ad h i := zcell_eq rfl rfl rfl rfl (u2_o _ _ _ hi)
theorem zcell_rI {cs : Nat → ClassId} {ad : Nat → Nat} {h : zH} {a i : Nat} {r : Nat → Int32} (hi : i ≠ a) : zcell cs ad (zrI h a r) i = zcell cs ad h i := zcell_eq rfl (uR_o _ _ hi) rfl rfl rfl
theorem zcell_rL {cs : Nat → ClassId} {ad : Nat → Nat} {h : zH} {a i : Nat} {r : Nat → Int64} (hi : i ≠ a) : zcell cs ad (zrL h a r) i = zcell cs ad h i := zcell_eq rfl rfl (uR_o _ _ hi) rfl rfl
section ZH
variable {C : zC} {Q : zQ} {n0 : Nat} {Y : zY} {rm : Room} {pc : Nat} {lv : List (Nat × Value)} {st : List Value} {h : zH} {cl sl : Nat}
theorem S_getI {a ci j idx n : Nat} (hf : zfl Y.1.cls idx ci j 0) (hs : zs h a = (ci, n)) (hd : decode Y.2.1 pc = .ok (.getfield idx, 3)) (k : Sem C Q n0 Y rm (pc + 3) lv (.int (zI h a j) :: st) h cl sl) : Sem C Q n0 Y rm pc lv (.ref a :: st) h cl sl :=
  fun ad0 p l e s m args below meth c F B ad H locs ls a1 a2 a3 a4 a5 a6 => va_get F.1 F.2.1 F.2.2.2.2.1 (zin ci hf.1) F.2.2.2.1 B.1 a4.1 a (zat_o a4 hs hf.1) (zcls_at ci hf.1) j hf.2.1 (F.2.2.2.2.1 _ hf.2.2.2) (fun _ q => q) (v := .int (zI h a j)) (by rw [zfs_at hf.2.1, zfv_0 hf.2.2.1]) hd (k ad0 p l e s m args below meth c F B ad H locs ls a1 a2 a3 a4 a5 a6)
theorem S_getL {a ci j idx n : Nat} (hf : zfl Y.1.cls idx ci j 1) (hs : zs h a = (ci, n)) (hd : decode Y.2.1 pc = .ok (.getfield idx, 3)) (k : Sem C Q n0 Y rm (pc + 3) lv (.long (zL h a j) :: st) h cl sl) : Sem C Q n0 Y rm pc lv (.ref a :: st) h cl sl :=
  fun ad0 p l e s m args below meth c F B ad H locs ls a1 a2 a3 a4 a5 a6 => va_get F.1 F.2.1 F.2.2.2.2.1 (zin ci hf.1) F.2.2.2.1 B.1 a4.1 a (zat_o a4 hs hf.1) (zcls_at ci hf.1) j hf.2.1 (F.2.2.2.2.1 _ hf.2.2.2) (fun _ q => q) (v := .long (zL h a j)) (by rw [zfs_at hf.2.1, zfv_1 hf.2.2.1]) hd (k ad0 p l e s m args below meth c F B ad H locs ls a1 a2 a3 a4 a5 a6)
theorem S_getP {a b ci j idx n : Nat} (hf : zfl Y.1.cls idx ci j 2) (hs : zs h a = (ci, n)) (hp : zP h a j = some b) (hd : decode Y.2.1 pc = .ok (.getfield idx, 3)) (k : Sem C Q n0 Y rm (pc + 3) lv (.ref b :: st) h cl sl) : Sem C Q n0 Y rm pc lv (.ref a :: st) h cl sl :=
  fun ad0 p l e s m args below meth c F B ad H locs ls a1 a2 a3 a4 a5 a6 => va_get F.1 F.2.1 F.2.2.2.2.1 (zin ci hf.1) F.2.2.2.1 B.1 a4.1 a (zat_o a4 hs hf.1) (zcls_at ci hf.1) j hf.2.1 (F.2.2.2.2.1 _ hf.2.2.2) (fun _ q => q) (v := .ref (ad b)) (by rw [zfs_at hf.2.1, zfv_2 hf.2.2.1, hp]; rfl) hd (k ad0 p l e s m args below meth c F B ad H locs ls a1 a2 a3 a4 a5 a6)
theorem S_getM {a b ci j idx n : Nat} (hf : zfl Y.1.cls idx ci j 3) (hs : zs h a = (ci, n)) (hp : zM h a j = some b) (hd : decode Y.2.1 pc = .ok (.getfield idx, 3)) (k : Sem C Q n0 Y rm (pc + 3) lv (.ref b :: st) h cl sl) : Sem C Q n0 Y rm pc lv (.ref a :: st) h cl sl :=
  fun ad0 p l e s m args below meth c F B ad H locs ls a1 a2 a3 a4 a5 a6 => va_get F.1 F.2.1 F.2.2.2.2.1 (zin ci hf.1) F.2.2.2.1 B.1 a4.1 a (zat_o a4 hs hf.1) (zcls_at ci hf.1) j hf.2.1 (F.2.2.2.2.1 _ hf.2.2.2) (fun _ q => q) (v := .ref (ad b)) (by rw [zfs_at hf.2.1, zfv_3 hf.2.2.1, hp]; rfl) hd (k ad0 p l e s m args below meth c F B ad H locs ls a1 a2 a3 a4 a5 a6)
/-- a field written: the new heap's cell is given -/
theorem S_putX {a ci j idx n : Nat} {t : Nat} {v : Value} {h' : zH} (hf : zfl Y.1.cls idx ci j t) (hs : zs h a = (ci, n)) (hfin : (zTt ci j).2.2.2 = false ∨ ((zTt ci j).2.2.2 = true ∧ Y.1.name = "<init>" ∧ (zTt ci j).1 = Y.1.cls))
    (hv : ∀ ad, narrow (zty ci j) (zv ad v) = zv ad v ∧ fits (zty ci j) (zv ad v) = true) (hn : zn h' = zn h) (hz : zs h' = zs h) (hj : ∀ ad, zfv ad h' a ci j = zv ad v) (hi : ∀ ad i, i ≠ j → zfv ad h' a ci i = zfv ad h a ci i) (ho : ∀ cs ad i, i ≠ a → zcell cs ad h' i = zcell cs ad h i)
    (hd : decode Y.2.1 pc = .ok (.putfield idx, 3)) (k : Sem C Q n0 Y rm (pc + 3) lv st h' cl sl) : Sem C Q n0 Y rm pc lv (v :: .ref a :: st) h cl sl := by
  intro ad0 p l e s m args below meth c F B ad H locs ls a1 a2 a3 a4 a5 a6
  have hcell : zcell C.2.2.1 ad h' a = .inr (ci, ((List.range (zN ci)).map (zfv ad h a ci)).set j (zv ad v)) := by
    rw [zcell_o (n := n) (by rw [hz]; exact hs) hf.1, zfs_set (hj ad) (hi ad)]
  have kk : ∀ (H1 : Heap) (locs1 : List Loc), va_P C.2.1 zcls ((zws C.2.2.1 ad h).set a (ad a, .inr (ci, ((List.range (zN ci)).map (zfv ad h a ci)).set j (zv ad v)))) H1 → va_D (zA C) ((zws C.2.2.1 ad h).set a (ad a, .inr (ci, ((List.range (zN ci)).map (zfv ad h a ci)).set j (zv ad v)))) → va_S (zA C) s.heap H1 locs1 → W p l e rm s m args below meth c H1 locs1 cl sl (Q ad0 below args s) (F0 m (pc + 3) ls (st.map (zv ad))) := fun H1 locs1 hP hD hS =>
    k ad0 p l e s m args below meth c F B ad H1 locs1 ls a1 a2 (by rw [hn]; exact a3) (zWd_set a4 hn hz hcell (ho _ ad) hP hD) hS a6
  rcases hfin with q | ⟨q, q2, q3⟩
  · exact va_put F.1 F.2.1 F.2.2.2.2.1 (zin ci hf.1) (zty ci) (zty_ok ci hf.1) (znm ci hf.1) F.2.2.2.1 B.1 a4.1 a4.2.1 a5 a (zat_o a4 hs hf.1) (zcls_at ci hf.1) j hf.2.1 (F.2.2.2.2.1 _ hf.2.2.2) (fun _ q => q) q (zty_ok ci hf.1 j hf.2.1) (hv ad).1 (hv ad).2 (by simp [hf.2.1]) hd kk
  · exact va_putF F.1 F.2.1 F.2.2.2.2.1 (zin ci hf.1) (zty ci) (zty_ok ci hf.1) (znm ci hf.1) F.2.2.2.1 B.1 a4.1 a4.2.1 a5 a (zat_o a4 hs hf.1) (zcls_at ci hf.1) j hf.2.1 (F.2.2.2.2.1 _ hf.2.2.2) (fun _ q => q) q (F.2.2.2.2.2.2.2.trans q2) q3 (zty_ok ci hf.1 j hf.2.1) (hv ad).1 (hv ad).2 (by simp [hf.2.1]) hd kk
theorem zfv_sI {ad : Nat → Nat} {h : zH} {a ci j i : Nat} {x : Int32} (hi : i ≠ j) : zfv ad (zsI h a j x) a ci i = zfv ad h a ci i := by
  unfold zfv
  rw [show zI (zsI h a j x) a i = zI h a i by simp [zI, zsI, u2, hi], show zL (zsI h a j x) = zL h from rfl, show zP (zsI h a j x) = zP h from rfl, show zM (zsI h a j x) = zM h from rfl]
theorem zfv_sP {ad : Nat → Nat} {h : zH} {a ci j i : Nat} {x : Option Nat} (hi : i ≠ j) : zfv ad (zsP h a j x) a ci i = zfv ad h a ci i := by
  unfold zfv
  rw [show zP (zsP h a j x) a i = zP h a i by simp [zP, zsP, u2, hi], show zL (zsP h a j x) = zL h from rfl, show zI (zsP h a j x) = zI h from rfl, show zM (zsP h a j x) = zM h from rfl]
theorem zfv_sM {ad : Nat → Nat} {h : zH} {a ci j i : Nat} {x : Option Nat} (hi : i ≠ j) : zfv ad (zsM h a j x) a ci i = zfv ad h a ci i := by
  unfold zfv
  rw [show zM (zsM h a j x) a i = zM h a i by simp [zM, zsM, u2, hi], show zL (zsM h a j x) = zL h from rfl, show zI (zsM h a j x) = zI h from rfl, show zP (zsM h a j x) = zP h from rfl]
def zfin (own nm : String) (ci j : Nat) : Prop := (zTt ci j).2.2.2 = false ∨ ((zTt ci j).2.2.2 = true ∧ nm = "<init>" ∧ (zTt ci j).1 = own)
theorem S_putI {a ci j idx n : Nat} {x : Int32} (hf : zfl Y.1.cls idx ci j 0) (hs : zs h a = (ci, n)) (hfin : zfin Y.1.cls Y.1.name ci j) (ht : zty ci j = .int) (hd : decode Y.2.1 pc = .ok (.putfield idx, 3)) (k : Sem C Q n0 Y rm (pc + 3) lv st (zsI h a j x) cl sl) : Sem C Q n0 Y rm pc lv (.int x :: .ref a :: st) h cl sl :=
  S_putX (h' := zsI h a j x) hf hs hfin (fun ad => by rw [ht]; exact ⟨rfl, rfl⟩) rfl rfl (fun ad => by rw [zfv_0 hf.2.2.1]; show Value.int _ = Value.int x; congr 1; simp [zI, zsI, u2]) (fun ad i hi => zfv_sI hi) (fun cs ad i hi => zcell_sI hi) hd k
theorem S_putZ {a ci j idx n : Nat} {x : Int32} (hf : zfl Y.1.cls idx ci j 0) (hs : zs h a = (ci, n)) (hfin : zfin Y.1.cls Y.1.name ci j) (ht : zty ci j = .boolean) (hx : x = 0 ∨ x = 1) (hd : decode Y.2.1 pc = .ok (.putfield idx, 3)) (k : Sem C Q n0 Y rm (pc + 3) lv st (zsI h a j x) cl sl) : Sem C Q n0 Y rm pc lv (.int x :: .ref a :: st) h cl sl :=
  S_putX (h' := zsI h a j x) hf hs hfin (fun ad => by rw [ht]; rcases hx with rfl | rfl <;> exact ⟨rfl, rfl⟩) rfl rfl (fun ad => by rw [zfv_0 hf.2.2.1]; show Value.int _ = Value.int x; congr 1; simp [zI, zsI, u2]) (fun ad i hi => zfv_sI hi) (fun cs ad i hi => zcell_sI hi) hd k
def zrefTy (t : FieldType) : Prop := (∃ n, t = .object n) ∨ ∃ u, t = .array u
theorem zrefTy_ok {t : FieldType} (h : zrefTy t) (a : Nat) : narrow t (.ref a) = .ref a ∧ fits t (.ref a) = true := by
  rcases h with ⟨n, rfl⟩ | ⟨u, rfl⟩ <;> exact ⟨rfl, rfl⟩
theorem S_putP {a b ci j idx n : Nat} (hf : zfl Y.1.cls idx ci j 2) (hs : zs h a = (ci, n)) (hfin : zfin Y.1.cls Y.1.name ci j) (ht : zrefTy (zty ci j)) (hd : decode Y.2.1 pc = .ok (.putfield idx, 3)) (k : Sem C Q n0 Y rm (pc + 3) lv st (zsP h a j (some b)) cl sl) : Sem C Q n0 Y rm pc lv (.ref b :: .ref a :: st) h cl sl :=
  S_putX (h' := zsP h a j (some b)) hf hs hfin (fun ad => zrefTy_ok ht _) rfl rfl (fun ad => by rw [zfv_2 hf.2.2.1, show zP (zsP h a j (some b)) a j = some b by simp [zP, zsP, u2]]; rfl) (fun ad i hi => zfv_sP hi) (fun cs ad i hi => zcell_sP hi) hd k
theorem S_putM {a b ci j idx n : Nat} (hf : zfl Y.1.cls idx ci j 3) (hs : zs h a = (ci, n)) (hfin : zfin Y.1.cls Y.1.name ci j) (ht : zrefTy (zty ci j)) (hd : decode Y.2.1 pc = .ok (.putfield idx, 3)) (k : Sem C Q n0 Y rm (pc + 3) lv st (zsM h a j (some b)) cl sl) : Sem C Q n0 Y rm pc lv (.ref b :: .ref a :: st) h cl sl :=
  S_putX (h' := zsM h a j (some b)) hf hs hfin (fun ad => zrefTy_ok ht _) rfl rfl (fun ad => by rw [zfv_3 hf.2.2.1, show zM (zsM h a j (some b)) a j = some b by simp [zM, zsM, u2]]; rfl) (fun ad i hi => zfv_sM hi) (fun cs ad i hi => zcell_sM hi) hd k
-- arrays
theorem zat_i {ad : Nat → Nat} {H : Heap} {a n : Nat} (hW : zWd C ad h H) (hs : zs h a = (12, n)) : (zws C.2.2.1 ad h)[a]? = some (ad a, .inl (C.2.2.1 0, n, .inl (zI h a))) := by rw [zws_at (zWd_lt hW hs (by omega)), zcell_i hs]
theorem zat_l {ad : Nat → Nat} {H : Heap} {a n : Nat} (hW : zWd C ad h H) (hs : zs h a = (13, n)) : (zws C.2.2.1 ad h)[a]? = some (ad a, .inl (C.2.2.1 1, n, .inr (.inl (zL h a)))) := by rw [zws_at (zWd_lt hW hs (by omega)), zcell_l hs]
theorem zat_z {ad : Nat → Nat} {H : Heap} {a n : Nat} (hW : zWd C ad h H) (hs : zs h a = (14, n)) : (zws C.2.2.1 ad h)[a]? = some (ad a, .inl (C.2.2.1 2, n, .inl (zI h a))) := by rw [zws_at (zWd_lt hW hs (by omega)), zcell_z hs]
theorem zat_q {ad : Nat → Nat} {H : Heap} {a n k : Nat} (hW : zWd C ad h H) (hs : zs h a = (15 + k, n)) (hk : k < 5) : (zws C.2.2.1 ad h)[a]? = some (ad a, .inl (C.2.2.1 (3 + k), n, .inr (.inr (.inr (.inr (fun j => (zP h a j).map ad)))))) := by rw [zws_at (zWd_lt hW hs (by omega)), zcell_q hs hk]
theorem S_iald {a n : Nat} {i : Int32} (hs : zs h a = (12, n)) (hin : vp_in i n) (hd : decode Y.2.1 pc = .ok (.iaload, 1)) (k : Sem C Q n0 Y rm (pc + 1) lv (.int (zI h a i.toNatClampNeg) :: st) h cl sl) : Sem C Q n0 Y rm pc lv (.int i :: .ref a :: st) h cl sl :=
  fun ad0 p l e s m args below meth c F B ad H locs ls a1 a2 a3 a4 a5 a6 => va_iald F.1 F.2.1 B.1 a4.1 a 0 (zat_i a4 hs) rfl hin hd (k ad0 p l e s m args below meth c F B ad H locs ls a1 a2 a3 a4 a5 a6)
theorem S_lald {a n : Nat} {i : Int32} (hs : zs h a = (13, n)) (hin : vp_in i n) (hd : decode Y.2.1 pc = .ok (.laload, 1)) (k : Sem C Q n0 Y rm (pc + 1) lv (.long (zL h a i.toNatClampNeg) :: st) h cl sl) : Sem C Q n0 Y rm pc lv (.int i :: .ref a :: st) h cl sl :=
  fun ad0 p l e s m args below meth c F B ad H locs ls a1 a2 a3 a4 a5 a6 => va_lald F.1 F.2.1 B.1 a4.1 a 1 (zat_l a4 hs) rfl hin hd (k ad0 p l e s m args below meth c F B ad H locs ls a1 a2 a3 a4 a5 a6)
theorem S_zald {a n : Nat} {i : Int32} (hs : zs h a = (14, n)) (hin : vp_in i n) (hd : decode Y.2.1 pc = .ok (.baload, 1)) (k : Sem C Q n0 Y rm (pc + 1) lv (.int (zI h a i.toNatClampNeg) :: st) h cl sl) : Sem C Q n0 Y rm pc lv (.int i :: .ref a :: st) h cl sl :=
  fun ad0 p l e s m args below meth c F B ad H locs ls a1 a2 a3 a4 a5 a6 => va_zald F.1 F.2.1 B.1 a4.1 a 2 (zat_z a4 hs) rfl hin hd (k ad0 p l e s m args below meth c F B ad H locs ls a1 a2 a3 a4 a5 a6)
theorem S_iast {a n : Nat} {i x : Int32} (hs : zs h a = (12, n)) (hin : vp_in i n) (hd : decode Y.2.1 pc = .ok (.iastore, 1)) (k : Sem C Q n0 Y rm (pc + 1) lv st (zsI h a i.toNatClampNeg x) cl sl) : Sem C Q n0 Y rm pc lv (.int x :: .int i :: .ref a :: st) h cl sl := by
  intro ad0 p l e s m args below meth c F B ad H locs ls a1 a2 a3 a4 a5 a6
  refine va_iast F.1 F.2.1 B.1 a4.1 a4.2.1 a5 a 0 (zat_i a4 hs) rfl hin hd (fun H1 locs1 hP hD hS => k ad0 p l e s m args below meth c F B ad H1 locs1 ls a1 a2 a3 (zWd_set a4 rfl rfl ?_ (fun i hi => zcell_sI hi) hP hD) hS a6)
  rw [zcell_i (h := zsI h a i.toNatClampNeg x) hs, show zI (zsI h a i.toNatClampNeg x) a = upd (zI h a) i.toNatClampNeg x from u2_s _ _ _ _]
theorem S_zast {a n : Nat} {i x : Int32} (hs : zs h a = (14, n)) (hin : vp_in i n) (hx : x = 0 ∨ x = 1) (hd : decode Y.2.1 pc = .ok (.bastore, 1)) (k : Sem C Q n0 Y rm (pc + 1) lv st (zsI h a i.toNatClampNeg x) cl sl) : Sem C Q n0 Y rm pc lv (.int x :: .int i :: .ref a :: st) h cl sl := by
  intro ad0 p l e s m args below meth c F B ad H locs ls a1 a2 a3 a4 a5 a6
  refine va_zast F.1 F.2.1 B.1 a4.1 a4.2.1 a5 a 2 (zat_z a4 hs) rfl hin hd (fun H1 locs1 hP hD hS => k ad0 p l e s m args below meth c F B ad H1 locs1 ls a1 a2 a3 (zWd_set a4 rfl rfl ?_ (fun i hi => zcell_sI hi) hP hD) hS a6)
  rw [zcell_z (h := zsI h a i.toNatClampNeg x) hs, show zI (zsI h a i.toNatClampNeg x) a = upd (zI h a) i.toNatClampNeg x from u2_s _ _ _ _, show vp_nar .boolean x = x by rcases hx with rfl | rfl <;> rfl]
theorem S_last {a n : Nat} {i : Int32} {x : Int64} (hs : zs h a = (13, n)) (hin : vp_in i n) (hd : decode Y.2.1 pc = .ok (.lastore, 1)) (k : Sem C Q n0 Y rm (pc + 1) lv st (zsL h a i.toNatClampNeg x) cl sl) : Sem C Q n0 Y rm pc lv (.long x :: .int i :: .ref a :: st) h cl sl := by
  intro ad0 p l e s m args below meth c F B ad H locs ls a1 a2 a3 a4 a5 a6
  refine va_last F.1 F.2.1 B.1 a4.1 a4.2.1 a5 a 1 (zat_l a4 hs) rfl hin hd (fun H1 locs1 hP hD hS => k ad0 p l e s m args below meth c F B ad H1 locs1 ls a1 a2 a3 (zWd_set a4 rfl rfl ?_ (fun i hi => zcell_sL hi) hP hD) hS a6)
  rw [zcell_l (h := zsL h a i.toNatClampNeg x) hs, show zL (zsL h a i.toNatClampNeg x) a = vp_updL (zL h a) i.toNatClampNeg x from u2_s _ _ _ _]
/-- an array of references, of kind 15 + q -/
theorem S_aald {a b n : Nat} (q : Nat) {i : Int32} (hq : q < 5) (hs : zs h a = (15 + q, n)) (hin : vp_in i n) (hp : zP h a i.toNatClampNeg = some b) (hd : decode Y.2.1 pc = .ok (.aaload, 1)) (k : Sem C Q n0 Y rm (pc + 1) lv (.ref b :: st) h cl sl) : Sem C Q n0 Y rm pc lv (.int i :: .ref a :: st) h cl sl := by
  intro ad0 p l e s m args below meth c F B ad H locs ls a1 a2 a3 a4 a5 a6
  have hlt : i.toNatClampNeg < n := Nat.not_le.mp fun q => hin (Or.inr q)
  have hty : ∃ ty, (ztys C.2.2.1)[3 + q]? = some (C.2.2.1 (3 + q), ty) ∧ ty.isReference = true := by
    match q, hq with
    | 0, _ => exact ⟨_, rfl, rfl⟩
    | 1, _ => exact ⟨_, rfl, rfl⟩
    | 2, _ => exact ⟨_, rfl, rfl⟩
    | 3, _ => exact ⟨_, rfl, rfl⟩
    | 4, _ => exact ⟨_, rfl, rfl⟩
    | n + 5, h => exact absurd h (by omega)
  obtain ⟨ty, ht, hr⟩ := hty
  refine W.aald (v := .ref (ad b)) (ty := ty) F.1 F.2.1 (a4.1 a _ (zat_q a4 hs hq)) ((B.1.2 _ _ ht).1 n (fun j => va_rf ((zP h a j).map ad))) hr (fun q => by cases q) (by show ¬ (i < 0 ∨ (arrV _ _ _).slots.size ≤ _); rw [arrV_size]; exact hin) (by show (arrV _ _ _).slots[_]? = _; rw [arrV_read _ _ hlt]; show some (va_rf (Option.map ad (zP h a i.toNatClampNeg))) = _; rw [hp]; rfl) rfl rfl hd (k ad0 p l e s m args below meth c F B ad H locs ls a1 a2 a3 a4 a5 a6)
theorem S_alen_q {a n : Nat} (q : Nat) {v : Int32} (hq : q < 5) (hs : zs h a = (15 + q, n)) (hv : Int32.ofNat n = v) (hd : decode Y.2.1 pc = .ok (.arraylength, 1)) (k : Sem C Q n0 Y rm (pc + 1) lv (.int v :: st) h cl sl) : Sem C Q n0 Y rm pc lv (.ref a :: st) h cl sl := by
  intro ad0 p l e s m args below meth c F B ad H locs ls a1 a2 a3 a4 a5 a6
  have hty : ∃ ty, (ztys C.2.2.1)[3 + q]? = some (C.2.2.1 (3 + q), ty) := by
    match q, hq with
    | 0, _ => exact ⟨_, rfl⟩
    | 1, _ => exact ⟨_, rfl⟩
    | 2, _ => exact ⟨_, rfl⟩
    | 3, _ => exact ⟨_, rfl⟩
    | 4, _ => exact ⟨_, rfl⟩
    | n + 5, h => exact absurd h (by omega)
  obtain ⟨ty, ht⟩ := hty
  exact va_alen F.1 F.2.1 B.1 a4.1 a (3 + q) (x := (n, _)) (zat_q a4 hs hq) ht hv hd (k ad0 p l e s m args below meth c F B ad H locs ls a1 a2 a3 a4 a5 a6)
theorem S_alen_i {a n : Nat} {v : Int32} (hs : zs h a = (12, n)) (hv : Int32.ofNat n = v) (hd : decode Y.2.1 pc = .ok (.arraylength, 1)) (k : Sem C Q n0 Y rm (pc + 1) lv (.int v :: st) h cl sl) : Sem C Q n0 Y rm pc lv (.ref a :: st) h cl sl :=
  fun ad0 p l e s m args below meth c F B ad H locs ls a1 a2 a3 a4 a5 a6 => va_alen F.1 F.2.1 B.1 a4.1 a 0 (x := (n, _)) (zat_i a4 hs) rfl hv hd (k ad0 p l e s m args below meth c F B ad H locs ls a1 a2 a3 a4 a5 a6)
theorem S_alen_l {a n : Nat} {v : Int32} (hs : zs h a = (13, n)) (hv : Int32.ofNat n = v) (hd : decode Y.2.1 pc = .ok (.arraylength, 1)) (k : Sem C Q n0 Y rm (pc + 1) lv (.int v :: st) h cl sl) : Sem C Q n0 Y rm pc lv (.ref a :: st) h cl sl :=
  fun ad0 p l e s m args below meth c F B ad H locs ls a1 a2 a3 a4 a5 a6 => va_alen F.1 F.2.1 B.1 a4.1 a 1 (x := (n, _)) (zat_l a4 hs) rfl hv hd (k ad0 p l e s m args below meth c F B ad H locs ls a1 a2 a3 a4 a5 a6)
-- what stands before
theorem S_above {idx : Nat} (hw : Cond.fieldLink Y.1.cls idx "InnPurposes" "ABOVE" "[I" ∈ zT) (hd : decode Y.2.1 pc = .ok (.getstatic idx, 3)) (k : Sem C Q n0 Y rm (pc + 3) lv (.ref 1000000 :: st) h cl sl) : Sem C Q n0 Y rm pc lv st h cl sl :=
  fun ad0 p l e s m args below meth c F B ad H locs ls a1 a2 a3 a4 a5 a6 => va_gets F.1 F.2.1 B.2.1.1 a5 F.2.2.2.1 (F.2.2.2.2.1 _ hw) (fun _ q => q) hd (by rw [← a1 1000000 (Or.inr (by omega))]; exact k ad0 p l e s m args below meth c F B ad H locs ls a1 a2 a3 a4 a5 a6)
theorem S_bodies {idx : Nat} (hw : Cond.fieldLink Y.1.cls idx "InnPurposes" "BODIES" "[I" ∈ zT) (hd : decode Y.2.1 pc = .ok (.getstatic idx, 3)) (k : Sem C Q n0 Y rm (pc + 3) lv (.ref 1000001 :: st) h cl sl) : Sem C Q n0 Y rm pc lv st h cl sl :=
  fun ad0 p l e s m args below meth c F B ad H locs ls a1 a2 a3 a4 a5 a6 => va_gets F.1 F.2.1 B.2.1.2.2.1 a5 F.2.2.2.1 (F.2.2.2.2.1 _ hw) (fun _ q => q) hd (by rw [← a1 1000001 (Or.inr (by omega))]; exact k ad0 p l e s m args below meth c F B ad H locs ls a1 a2 a3 a4 a5 a6)
theorem S_compact {idx : Nat} (hw : Cond.fieldLink Y.1.cls idx "java/lang/String" "COMPACT_STRINGS" "Z" ∈ zT) (hd : decode Y.2.1 pc = .ok (.getstatic idx, 3)) (k : Sem C Q n0 Y rm (pc + 3) lv (.int 1 :: st) h cl sl) : Sem C Q n0 Y rm pc lv st h cl sl :=
  fun ad0 p l e s m args below meth c F B ad H locs ls a1 a2 a3 a4 a5 a6 => va_gets F.1 F.2.1 B.2.1.2.2.2.2.2.1 a5 F.2.2.2.1 (F.2.2.2.2.1 _ hw) (fun _ q => q) hd (k ad0 p l e s m args below meth c F B ad H locs ls a1 a2 a3 a4 a5 a6)
theorem S_sioobe {idx : Nat} (hw : Cond.fieldLink Y.1.cls idx "jdk/internal/util/Preconditions" "SIOOBE_FORMATTER" "Ljava/util/function/BiFunction;" ∈ zT) (hd : decode Y.2.1 pc = .ok (.getstatic idx, 3)) (k : ∀ v : Value, v = .null ∨ v = .ref 1000003 → Sem C Q n0 Y rm (pc + 3) lv (v :: st) h cl sl) : Sem C Q n0 Y rm pc lv st h cl sl := by
  intro ad0 p l e s m args below meth c F B ad H locs ls a1 a2 a3 a4 a5 a6
  rcases B.2.1.2.2.2.2.2.2.1 with q | q
  · exact va_gets F.1 F.2.1 q a5 F.2.2.2.1 (F.2.2.2.2.1 _ hw) (fun _ q => q) hd (k .null (Or.inl rfl) ad0 p l e s m args below meth c F B ad H locs ls a1 a2 a3 a4 a5 a6)
  · exact va_gets F.1 F.2.1 q a5 F.2.2.2.1 (F.2.2.2.2.1 _ hw) (fun _ q => q) hd (by rw [← a1 1000003 (Or.inr (by omega))]; exact k (.ref 1000003) (Or.inr rfl) ad0 p l e s m args below meth c F B ad H locs ls a1 a2 a3 a4 a5 a6)
theorem S_ab_ld {i : Int32} (hin : vp_in i 7) (hd : decode Y.2.1 pc = .ok (.iaload, 1)) (k : Sem C Q n0 Y rm (pc + 1) lv (.int (zAbove.getD i.toNatClampNeg 0) :: st) h cl sl) : Sem C Q n0 Y rm pc lv (.int i :: .ref 1000000 :: st) h cl sl := by
  intro ad0 p l e s m args below meth c F B ad H locs ls a1 a2 a3 a4 a5 a6
  show W p l e rm s m args below meth c H locs cl sl (Q ad0 below args s) (F0 m pc ls (.int i :: .ref (ad 1000000) :: st.map (zv ad)))
  rw [a1 1000000 (Or.inr (by omega))]
  exact va_ti F.1 F.2.1 B.2.1.2.1 a5 hin rfl hd (k ad0 p l e s m args below meth c F B ad H locs ls a1 a2 a3 a4 a5 a6)
theorem S_bo_ld {i : Int32} (hin : vp_in i 21) (hd : decode Y.2.1 pc = .ok (.iaload, 1)) (k : Sem C Q n0 Y rm (pc + 1) lv (.int (zBodies.getD i.toNatClampNeg 0) :: st) h cl sl) : Sem C Q n0 Y rm pc lv (.int i :: .ref 1000001 :: st) h cl sl := by
  intro ad0 p l e s m args below meth c F B ad H locs ls a1 a2 a3 a4 a5 a6
  show W p l e rm s m args below meth c H locs cl sl (Q ad0 below args s) (F0 m pc ls (.int i :: .ref (ad 1000001) :: st.map (zv ad)))
  rw [a1 1000001 (Or.inr (by omega))]
  exact va_ti F.1 F.2.1 B.2.1.2.2.2.1 a5 hin rfl hd (k ad0 p l e s m args below meth c F B ad H locs ls a1 a2 a3 a4 a5 a6)
theorem S_sc_ld {i : Int32} (hin : vp_in i C.2.2.2.1) (hd : decode Y.2.1 pc = .ok (.iaload, 1)) (k : Sem C Q n0 Y rm (pc + 1) lv (.int (C.2.2.2.2 i.toNatClampNeg) :: st) h cl sl) : Sem C Q n0 Y rm pc lv (.int i :: .ref 1000002 :: st) h cl sl := by
  intro ad0 p l e s m args below meth c F B ad H locs ls a1 a2 a3 a4 a5 a6
  show W p l e rm s m args below meth c H locs cl sl (Q ad0 below args s) (F0 m pc ls (.int i :: .ref (ad 1000002) :: st.map (zv ad)))
  rw [a1 1000002 (Or.inr (by omega))]
  exact va_ti F.1 F.2.1 B.2.1.2.2.2.2.1 a5 hin rfl hd (k ad0 p l e s m args below meth c F B ad H locs ls a1 a2 a3 a4 a5 a6)
theorem S_sc_len {v : Int32} (hv : Int32.ofNat C.2.2.2.1 = v) (hd : decode Y.2.1 pc = .ok (.arraylength, 1)) (k : Sem C Q n0 Y rm (pc + 1) lv (.int v :: st) h cl sl) : Sem C Q n0 Y rm pc lv (.ref 1000002 :: st) h cl sl := by
  intro ad0 p l e s m args below meth c F B ad H locs ls a1 a2 a3 a4 a5 a6
  show W p l e rm s m args below meth c H locs cl sl (Q ad0 below args s) (F0 m pc ls (.ref (ad 1000002) :: st.map (zv ad)))
  rw [a1 1000002 (Or.inr (by omega))]
  exact va_tlen F.1 F.2.1 B.2.1.2.2.2.2.1 a5 hv hd (k ad0 p l e s m args below meth c F B ad H locs ls a1 a2 a3 a4 a5 a6)
/-- a literal's coder, value, its bytes -/
theorem S_st_coder (i : Nat) (hi : i < 10) {idx : Nat} (hw : Cond.fieldLink Y.1.cls idx "java/lang/String" "coder" "B" ∈ zT) (hd : decode Y.2.1 pc = .ok (.getfield idx, 3)) (k : Sem C Q n0 Y rm (pc + 3) lv (.int 0 :: st) h cl sl) : Sem C Q n0 Y rm pc lv (.ref (1000010 + i) :: st) h cl sl := by
  intro ad0 p l e s m args below meth c F B ad H locs ls a1 a2 a3 a4 a5 a6
  show W p l e rm s m args below meth c H locs cl sl (Q ad0 below args s) (F0 m pc ls (.ref (ad (1000010 + i)) :: st.map (zv ad)))
  rw [a1 (1000010 + i) (Or.inr (by omega))]
  exact vk_getf F.1 F.2.1 (B.2.1.2.2.2.2.2.2.2 i hi).2.1 a5 F.2.2.2.1 (F.2.2.2.2.1 _ hw) (fun _ q => q) hd (k ad0 p l e s m args below meth c F B ad H locs ls a1 a2 a3 a4 a5 a6)
theorem S_st_value (i : Nat) (hi : i < 10) {idx : Nat} (hw : Cond.fieldLink Y.1.cls idx "java/lang/String" "value" "[B" ∈ zT) (hd : decode Y.2.1 pc = .ok (.getfield idx, 3)) (k : Sem C Q n0 Y rm (pc + 3) lv (.ref (1000030 + i) :: st) h cl sl) : Sem C Q n0 Y rm pc lv (.ref (1000010 + i) :: st) h cl sl := by
  intro ad0 p l e s m args below meth c F B ad H locs ls a1 a2 a3 a4 a5 a6
  show W p l e rm s m args below meth c H locs cl sl (Q ad0 below args s) (F0 m pc ls (.ref (ad (1000010 + i)) :: st.map (zv ad)))
  rw [a1 (1000010 + i) (Or.inr (by omega))]
  exact vk_getf F.1 F.2.1 (B.2.1.2.2.2.2.2.2.2 i hi).2.2.1 a5 F.2.2.2.1 (F.2.2.2.2.1 _ hw) (fun _ q => q) hd (by rw [← a1 (1000030 + i) (Or.inr (by omega))]; exact k ad0 p l e s m args below meth c F B ad H locs ls a1 a2 a3 a4 a5 a6)
theorem S_st_len (i : Nat) (hi : i < 10) {v : Int32} (hv : Int32.ofNat (zsBy.getD i []).length = v) (hd : decode Y.2.1 pc = .ok (.arraylength, 1)) (k : Sem C Q n0 Y rm (pc + 1) lv (.int v :: st) h cl sl) : Sem C Q n0 Y rm pc lv (.ref (1000030 + i) :: st) h cl sl := by
  intro ad0 p l e s m args below meth c F B ad H locs ls a1 a2 a3 a4 a5 a6
  show W p l e rm s m args below meth c H locs cl sl (Q ad0 below args s) (F0 m pc ls (.ref (ad (1000030 + i)) :: st.map (zv ad)))
  rw [a1 (1000030 + i) (Or.inr (by omega))]
  exact va_tlen F.1 F.2.1 (B.2.1.2.2.2.2.2.2.2 i hi).2.2.2 a5 hv hd (k ad0 p l e s m args below meth c F B ad H locs ls a1 a2 a3 a4 a5 a6)
theorem S_st_ld (i : Nat) (hi : i < 10) {j : Int32} (hin : vp_in j (zsBy.getD i []).length) (hd : decode Y.2.1 pc = .ok (.baload, 1)) (k : Sem C Q n0 Y rm (pc + 1) lv (.int ((zsBy.getD i []).getD j.toNatClampNeg 0) :: st) h cl sl) : Sem C Q n0 Y rm pc lv (.int j :: .ref (1000030 + i) :: st) h cl sl := by
  intro ad0 p l e s m args below meth c F B ad H locs ls a1 a2 a3 a4 a5 a6
  show W p l e rm s m args below meth c H locs cl sl (Q ad0 below args s) (F0 m pc ls (.int j :: .ref (ad (1000030 + i)) :: st.map (zv ad)))
  rw [a1 (1000030 + i) (Or.inr (by omega))]
  exact va_tb F.1 F.2.1 (B.2.1.2.2.2.2.2.2.2 i hi).2.2.2 a5 hin rfl hd (k ad0 p l e s m args below meth c F B ad H locs ls a1 a2 a3 a4 a5 a6)
end ZH
end
section
/-! THE LAYER: calls and ends -/
theorem zG_of {ws : List Cond} (h : ∀ w ∈ ws, w ∈ zT) : GoodIn zT ws := fun w hw => ⟨h w hw, good_of_word (List.mem_filter.mp (h w hw)).2⟩
theorem zIn_ws {Y : zY} (h : zcode Y ∈ zT) : ∀ w ∈ zWs Y, w ∈ zT := fun w hw => (zGood h w hw).1
theorem zPc_blind {C : zC} {ad : Nat → Nat} {av : List Value} {h : zH} : FrameBlind (zPc C ad av h) := fun a U g mk q => ⟨q.1, q.2.1, zBase_calling q.2.2⟩
/-- own's pool entry idx calls Y (n arguments) on an object of its own class -/
def zmV (own : String) (idx : Nat) (Y : zY) (n : Nat) : Prop :=
  Cond.methodLink own idx Y.1 ∈ zT ∧ Cond.instanceMethod Y.1 ∈ zT ∧ Cond.selects Y.1.cls Y.1 Y.1 ∈ zT ∧ Cond.initialized Y.1.cls ∈ zT ∧ zcode Y ∈ zT ∧ (Y.1.cls ≠ "java/lang/invoke/MethodHandle" ∧ Y.1.cls ≠ "java/lang/invoke/VarHandle" ∧ (parseMethodDescriptor Y.1.desc).map (fun d => d.parameters.length) = some n)
def zmS (own : String) (idx : Nat) (Y : zY) (n : Nat) : Prop :=
  Cond.methodLink own idx Y.1 ∈ zT ∧ Cond.static Y.1 ∈ zT ∧ Cond.initialized Y.1.cls ∈ zT ∧ zcode Y ∈ zT ∧ (Y.1.cls ≠ "java/lang/invoke/MethodHandle" ∧ Y.1.cls ≠ "java/lang/invoke/VarHandle" ∧ (parseMethodDescriptor Y.1.desc).map (fun d => d.parameters.length) = some n)
def zmSN (own : String) (idx : Nat) (Y : zY) (n : Nat) : Prop :=
  Cond.methodLinkNest own idx Y.1 "InnPurposes" ∈ lw_tbl ∧ Cond.static Y.1 ∈ zT ∧ Cond.initialized Y.1.cls ∈ zT ∧ zcode Y ∈ zT ∧ (Y.1.cls ≠ "java/lang/invoke/MethodHandle" ∧ Y.1.cls ≠ "java/lang/invoke/VarHandle" ∧ (parseMethodDescriptor Y.1.desc).map (fun d => d.parameters.length) = some n)
def zmI (own : String) (idx : Nat) (Y : zY) (n : Nat) : Prop :=
  Cond.methodLink own idx Y.1 ∈ zT ∧ Cond.instanceMethod Y.1 ∈ zT ∧ Cond.initialized Y.1.cls ∈ zT ∧ zcode Y ∈ zT ∧ Y.1.name = "<init>" ∧ Y.2.2.2 = none ∧ (Y.1.cls ≠ "java/lang/invoke/MethodHandle" ∧ Y.1.cls ≠ "java/lang/invoke/VarHandle" ∧ (parseMethodDescriptor Y.1.desc).map (fun d => d.parameters.length) = some n)
def zmIN (own : String) (idx : Nat) (Y : zY) (n : Nat) : Prop :=
  Cond.methodLinkNest own idx Y.1 "InnPurposes" ∈ lw_tbl ∧ Cond.instanceMethod Y.1 ∈ zT ∧ Cond.initialized Y.1.cls ∈ zT ∧ zcode Y ∈ zT ∧ Y.1.name = "<init>" ∧ Y.2.2.2 = none ∧ (Y.1.cls ≠ "java/lang/invoke/MethodHandle" ∧ Y.1.cls ≠ "java/lang/invoke/VarHandle" ∧ (parseMethodDescriptor Y.1.desc).map (fun d => d.parameters.length) = some n)
section ZK
variable {p : Program} {l : Launch} {e : Env} {R : Room} {s : State} {m : MethodId} {args : Array Value} {below : List Frame} {meth : Method} {c : Code} {H : Heap} {locs : List Loc} {cells slots mc ms : Nat} {Qw : State → Prop}
/-- behind a call -/
theorem zback {C : zC} {ad : Nat → Nat} {h : zH} {R' : Option Value → zH → Prop} {a : Array Value} {pc : Nat} {ls : Array Slot} {st0 rest : List Value} (hr : va_Run p l e R s m args below meth c H locs cells slots mc ms (F0 m pc ls st0) rest (zQc C ad h mc R' a) (zA C)) (hS : va_S (zA C) s.heap H locs)
    (kk : ∀ (v : Option Value) (h' : zH) (ad' : Nat → Nat) (H1 : Heap) (locs1 : List Loc), (mc = 0 → ad' = ad) → (∀ i, (i < zn h ∨ 1000000 ≤ i) → ad' i = ad i) → zn h ≤ zn h' → zWd C ad' h' H1 → R' v h' → va_S (zA C) s.heap H1 locs1 →
      W p l e R s m args below meth c H1 locs1 (cells + mc) (slots + ms) Qw (F0 m (pc + 3) ls ((v.map (zv ad')).toList ++ rest))) : W p l e R s m args below meth c H locs cells slots Qw (F0 m pc ls st0) := by
  intro T hT X
  obtain ⟨v, st₀, t, T', L, h0, X', hL, e1, e2, ⟨⟨v', h', ad', hv, x1, x2, x3, x4, x5⟩, hz, hk⟩, st⟩ := hr T hT X
  cases hv
  rw [h0] at hz hk
  obtain ⟨t2, a1, b1⟩ := kk v' h' ad' T'.heap (locs ++ L) x1 x2 x3 (by rw [e1]; exact x4) x5
    ⟨Nat.le_trans hS.1 (by rw [e1]; exact hz), fun q h1 h2 => by rw [e1, hk q (Nat.lt_of_lt_of_le h1 hS.1) h2]; exact hS.2.1 q h1 h2, fun q hq => by
      rcases List.mem_append.mp hq with h | h
      · exact hS.2.2 q h
      · exact hL q h⟩ T' rfl X'
  exact ⟨t2, st t2 a1, b1⟩
end ZK
/-- a value that an object world of n objects can hold -/
def zok (n : Nat) (v : Value) : Prop := match v with
  | .ref k => k < n ∨ 1000000 ≤ k
  | _ => True
theorem zv_ext {ad ad' : Nat → Nat} {n : Nat} {v : Value} (hv : zok n v) (he : ∀ i, (i < n ∨ 1000000 ≤ i) → ad' i = ad i) : zv ad' v = zv ad v := by
  cases v <;> first | rfl | (show Value.ref _ = Value.ref _; rw [he _ hv])
theorem zvs_ext {ad ad' : Nat → Nat} {n : Nat} : ∀ {st : List Value}, (∀ v ∈ st, zok n v) → (∀ i, (i < n ∨ 1000000 ≤ i) → ad' i = ad i) → st.map (zv ad') = st.map (zv ad)
  | [], _, _ => rfl
  | v :: vs, hv, he => by
    rw [List.map_cons, List.map_cons, zv_ext (hv v List.mem_cons_self) he, zvs_ext (fun w hw => hv w (List.mem_cons_of_mem _ hw)) he]
theorem zls_ext {ad ad' : Nat → Nat} {n : Nat} : ∀ {lv : List (Nat × Value)}, (∀ q ∈ lv, zok n q.2) → (∀ i, (i < n ∨ 1000000 ≤ i) → ad' i = ad i) → lv.map (zl ad') = lv.map (zl ad)
  | [], _, _ => rfl
  | v :: vs, hv, he => by
    rw [List.map_cons, List.map_cons, zls_ext (fun w hw => hv w (List.mem_cons_of_mem _ hw)) he]
    show (v.1, zv ad' v.2) :: _ = (v.1, zv ad v.2) :: _
    rw [zv_ext (hv v List.mem_cons_self) he]
section ZC
variable {C : zC} {Q : zQ} {n0 : Nat} {Y : zY} {rm : Room} {pc : Nat} {lv : List (Nat × Value)} {st : List Value} {h : zH} {cl sl : Nat}
def zroom (rm : Room) (Yc : zY) (d mc ms cl sl : Nat) : Prop := d + 1 ≤ rm.frames ∧ 8 + (Yc.2.2.1 + 11) + 40 * d ≤ rm.locals ∧ cl + mc ≤ rm.cells ∧ sl + ms ≤ rm.slots
theorem zroom_0 {Yc : zY} {d : Nat} (hL : Yc.2.2.1 ≤ 21) : zroom (zrm (d + 1) 0 0) Yc d 0 0 0 0 := ⟨Nat.le_refl _, by show _ ≤ 40 * (d + 1); omega, Nat.le_refl _, Nat.le_refl _⟩
theorem zrest {rest : List Value} (ad : Nat → Nat) (hr : (rest.map fun v => v.category).sum ≤ 8) : ((rest.map (zv ad)).map fun v => v.category).sum ≤ 8 := by
  rw [List.map_map, show ((fun v : Value => v.category) ∘ zv ad) = (fun v => v.category) from funext fun v => zv_cat ad v]
  exact hr
/-- the end of every call: nothing was made -/
theorem zcall_end {Yc : zY} {rest As : List Value} {ad0 : Nat → Nat} {p : Program} {l : Launch} {e : Env} {s : State} {m : MethodId} {args : Array Value} {below : List Frame} {meth : Method} {c : Code} (F : zFix Y p s m args meth c) (B : zBase C ad0 s) {ad : Nat → Nat} {H : Heap} {locs : List Loc} {ls : Array Slot}
    (a1 : ∀ i, (i < n0 ∨ 1000000 ≤ i) → ad i = ad0 i) (a2 : cl = 0 → ad = ad0) (a3 : n0 ≤ zn h) (a5 : va_S (zA C) s.heap H locs) (a6 : lv_has ls Y.2.2.1 (lv.map (zl ad))) {a : Array Value} {st0 : List Value}
    (hr : va_Run p l e rm s m args below meth c H locs cl sl 0 0 (F0 m pc ls st0) (rest.map (zv ad)) (zQc C ad h 0 (fun v h' => Sem C Q n0 Y rm (pc + 3) lv (v.toList ++ rest) h' cl sl) a) (zA C)) : W p l e rm s m args below meth c H locs cl sl (Q ad0 below args s) (F0 m pc ls st0) := by
  refine zback hr a5 (fun v h' ad' H1 locs1 x1 x2 x3 x4 x5 x6 => ?_)
  obtain rfl := x1 rfl
  have q := x5 ad0 p l e s m args below meth c F B ad' H1 locs1 ls a1 a2 (Nat.le_trans a3 x3) x4 x6 a6
  rw [List.map_append] at q
  cases v <;> exact q
theorem zcall_endA {Yc : zY} {mc ms : Nat} {rest As : List Value} {ad0 : Nat → Nat} {p : Program} {l : Launch} {e : Env} {s : State} {m : MethodId} {args : Array Value} {below : List Frame} {meth : Method} {c : Code} (F : zFix Y p s m args meth c) (B : zBase C ad0 s) {ad : Nat → Nat} {H : Heap} {locs : List Loc} {ls : Array Slot} (hmc : mc ≠ 0)
    (hlv : ∀ q ∈ lv, zok (zn h) q.2) (hrs : ∀ v ∈ rest, zok (zn h) v)
    (a1 : ∀ i, (i < n0 ∨ 1000000 ≤ i) → ad i = ad0 i) (a3 : n0 ≤ zn h) (a5 : va_S (zA C) s.heap H locs) (a6 : lv_has ls Y.2.2.1 (lv.map (zl ad))) {a : Array Value} {st0 : List Value}
    (hr : va_Run p l e rm s m args below meth c H locs cl sl mc ms (F0 m pc ls st0) (rest.map (zv ad)) (zQc C ad h mc (fun v h' => Sem C Q n0 Y rm (pc + 3) lv (v.toList ++ rest) h' (cl + mc) (sl + ms)) a) (zA C)) : W p l e rm s m args below meth c H locs cl sl (Q ad0 below args s) (F0 m pc ls st0) := by
  refine zback hr a5 (fun v h' ad' H1 locs1 x1 x2 x3 x4 x5 x6 => ?_)
  have q := x5 ad0 p l e s m args below meth c F B ad' H1 locs1 ls (fun i hi => (x2 i (hi.imp (fun z => Nat.lt_of_lt_of_le z a3) id)).trans (a1 i hi)) (fun z => absurd z (by omega)) (Nat.le_trans a3 x3) x4 x6 (by rw [zls_ext hlv x2]; exact a6)
  rw [List.map_append, zvs_ext hrs x2] at q
  cases v <;> exact q
theorem zmapst (ad : Nat → Nat) (As rest : List Value) (a : Nat) : (As.reverse ++ .ref a :: rest).map (zv ad) = (As.map (zv ad)).reverse ++ .ref (ad a) :: rest.map (zv ad) := by rw [List.map_append, List.map_reverse]; rfl
theorem zrecv {ad0 ad : Nat → Nat} {s : State} {H : Heap} {a ci sz : Nat} (B : zBase C ad0 s) (a4 : zWd C ad h H) (hs : zs h a = (ci, sz)) (hc : ci < 12) : ∃ cell : Cell, H[ad a]? = some cell ∧ cell.vm.isStatics = false ∧ s.vm.findClass (zR ci) = some cell.cls := va_recv B.1 a4.1 (zcls_at ci hc) (zat_o a4 hs hc)
theorem S_callV {Yc : zY} {a idx n ci sz d : Nat} (As rest : List Value) (hm : zmV Y.1.cls idx Yc n) (hst : st = As.reverse ++ .ref a :: rest) (hn : As.length = n) (hs : zs h a = (ci, sz)) (hC : zR ci = Yc.1.cls ∧ ci < 12) (hr : (rest.map fun v => v.category).sum ≤ 8) (hrm : zroom rm Yc d 0 0 cl sl)
    (hd : decode Y.2.1 pc = .ok (.invokevirtual idx, 3)) (hc : CallSem C Yc d 0 0 (.ref a :: As) h (fun v h' => Sem C Q n0 Y rm (pc + 3) lv (v.toList ++ rest) h' cl sl)) : Sem C Q n0 Y rm pc lv st h cl sl := by
  intro ad0 p l e s m args below meth c F B ad H locs ls a1 a2 a3 a4 a5 a6
  subst hst
  obtain ⟨w1, w2, w3, w4, w5, w6⟩ := hm
  refine zcall_end (Yc := Yc) (As := As) F B a1 a2 a3 a5 a6 (va_runV (As := As.map (zv ad)) (rest := rest.map (zv ad)) ⟨F.1, F.2.1, F.2.2.1, F.2.2.2.1, F.2.2.2.2.1⟩ (hc l ad) (cwV (bytes := Yc.2.1) (maxL := Yc.2.2.1) (ret := Yc.2.2.2) (C := Yc.1.cls) n F.2.2.2.2.1 (zG_of fun w hw => ?_) rfl rfl rfl ⟨rfl, w6⟩ ⟨hrm.1, hrm.2.1⟩) ⟨zPc_blind, by rw [← hC.1]; exact zrecv B a4 hs hC.2, fun U hU hW => ⟨rfl, by rw [hU]; exact a4, zBase_moved B a5 hU hW (fun i hi => a1 i (Or.inr hi))⟩⟩ rfl (by rw [List.length_map]; exact hn) a6.1 (zmapst ad As rest a) (lv_room (zrest ad hr)) hd ⟨hrm.2.2.1, hrm.2.2.2⟩)
  rcases List.mem_append.mp hw with q | q
  · simp only [List.mem_cons, List.not_mem_nil, or_false] at q
    rcases q with rfl | rfl | rfl | rfl
    · exact w1
    · exact w2
    · exact w3
    · exact w4
  · exact zIn_ws w5 w q
theorem zmapst0 (ad : Nat → Nat) (As rest : List Value) : (As.reverse ++ rest).map (zv ad) = (As.map (zv ad)).reverse ++ rest.map (zv ad) := by rw [List.map_append, List.map_reverse]
theorem S_callS {Yc : zY} {idx n d : Nat} (As rest : List Value) (hm : zmS Y.1.cls idx Yc n) (hst : st = As.reverse ++ rest) (hn : As.length = n) (hr : (rest.map fun v => v.category).sum ≤ 8) (hrm : zroom rm Yc d 0 0 cl sl)
    (hd : decode Y.2.1 pc = .ok (.invokestatic idx, 3)) (hc : CallSem C Yc d 0 0 As h (fun v h' => Sem C Q n0 Y rm (pc + 3) lv (v.toList ++ rest) h' cl sl)) : Sem C Q n0 Y rm pc lv st h cl sl := by
  intro ad0 p l e s m args below meth c F B ad H locs ls a1 a2 a3 a4 a5 a6
  subst hst
  obtain ⟨w1, w2, w4, w5, w6⟩ := hm
  refine zcall_end (Yc := Yc) (As := As) F B a1 a2 a3 a5 a6 (va_runS (As := As.map (zv ad)) (rest := rest.map (zv ad)) ⟨F.1, F.2.1, F.2.2.1, F.2.2.2.1, F.2.2.2.2.1⟩ (hc l ad) (va_cwS (bytes := Yc.2.1) (maxL := Yc.2.2.1) (ret := Yc.2.2.2) n F.2.2.2.2.1 (zG_of fun w hw => ?_) rfl rfl rfl w6 ⟨hrm.1, hrm.2.1⟩) ⟨zPc_blind, fun U hU hW => ⟨rfl, by rw [hU]; exact a4, zBase_moved B a5 hU hW (fun i hi => a1 i (Or.inr hi))⟩⟩ rfl (by rw [List.length_map]; exact hn) a6.1 (zmapst0 ad As rest) (lv_room (zrest ad hr)) hd ⟨hrm.2.2.1, hrm.2.2.2⟩)
  rcases List.mem_append.mp hw with q | q
  · simp only [List.mem_cons, List.not_mem_nil, or_false] at q
    rcases q with rfl | rfl | rfl
    · exact w1
    · exact w2
    · exact w4
  · exact zIn_ws w5 w q
theorem S_callSN {Yc : zY} {idx n d : Nat} (As rest : List Value) (hm : zmSN Y.1.cls idx Yc n) (hst : st = As.reverse ++ rest) (hn : As.length = n) (hr : (rest.map fun v => v.category).sum ≤ 8) (hrm : zroom rm Yc d 0 0 cl sl)
    (hd : decode Y.2.1 pc = .ok (.invokestatic idx, 3)) (hc : CallSem C Yc d 0 0 As h (fun v h' => Sem C Q n0 Y rm (pc + 3) lv (v.toList ++ rest) h' cl sl)) : Sem C Q n0 Y rm pc lv st h cl sl := by
  intro ad0 p l e s m args below meth c F B ad H locs ls a1 a2 a3 a4 a5 a6
  subst hst
  obtain ⟨w1, w2, w4, w5, w6⟩ := hm
  have hl : va_Nw (.methodLinkNest Y.1.cls idx Yc.1 "InnPurposes") s := B.2.2.2.2.1 _ _ _ _ w1
  exact zcall_end (Yc := Yc) (As := As) F B a1 a2 a3 a5 a6 (va_runSN (As := As.map (zv ad)) (rest := rest.map (zv ad)) ⟨F.1, F.2.1, F.2.2.1, F.2.2.2.1, F.2.2.2.2.1⟩ (hc l ad) ⟨va_cnB (bytes := Yc.2.1) (maxL := Yc.2.2.1) (ret := Yc.2.2.2) n F.2.2.2.2.1 (zGood w5) rfl rfl rfl hl (F.2.2.2.2.1 _ w4) w6 ⟨hrm.1, hrm.2.1⟩, F.2.2.2.2.1 _ w2, trivial⟩ ⟨zPc_blind, fun U hU hW => ⟨rfl, by rw [hU]; exact a4, zBase_moved B a5 hU hW (fun i hi => a1 i (Or.inr hi))⟩⟩ rfl (by rw [List.length_map]; exact hn) a6.1 (zmapst0 ad As rest) (lv_room (zrest ad hr)) hd ⟨hrm.2.2.1, hrm.2.2.2⟩)
theorem S_aboveN {idx : Nat} (hw : Cond.fieldLinkNest Y.1.cls idx "InnPurposes" "ABOVE" "[I" "InnPurposes" ∈ lw_tbl) (hd : decode Y.2.1 pc = .ok (.getstatic idx, 3)) (k : Sem C Q n0 Y rm (pc + 3) lv (.ref 1000000 :: st) h cl sl) : Sem C Q n0 Y rm pc lv st h cl sl :=
  fun ad0 p l e s m args below meth c F B ad H locs ls a1 a2 a3 a4 a5 a6 => va_getsN F.1 F.2.1 B.2.1.1 a5 F.2.2.2.1 (va_Nw.use rfl (B.2.2.2.2.2.1 _ _ _ _ _ _ hw)) (fun _ q => q) hd (by rw [← a1 1000000 (Or.inr (by omega))]; exact k ad0 p l e s m args below meth c F B ad H locs ls a1 a2 a3 a4 a5 a6)
theorem S_bodiesN {idx : Nat} (hw : Cond.fieldLinkNest Y.1.cls idx "InnPurposes" "BODIES" "[I" "InnPurposes" ∈ lw_tbl) (hd : decode Y.2.1 pc = .ok (.getstatic idx, 3)) (k : Sem C Q n0 Y rm (pc + 3) lv (.ref 1000001 :: st) h cl sl) : Sem C Q n0 Y rm pc lv st h cl sl :=
  fun ad0 p l e s m args below meth c F B ad H locs ls a1 a2 a3 a4 a5 a6 => va_getsN F.1 F.2.1 B.2.1.2.2.1 a5 F.2.2.2.1 (va_Nw.use rfl (B.2.2.2.2.2.1 _ _ _ _ _ _ hw)) (fun _ q => q) hd (by rw [← a1 1000001 (Or.inr (by omega))]; exact k ad0 p l e s m args below meth c F B ad H locs ls a1 a2 a3 a4 a5 a6)
/-- a constructor called (it makes mc cells) -/
theorem S_callI {Yc : zY} {a idx n d mc ms : Nat} (As rest : List Value) (hm : zmI Y.1.cls idx Yc n) (hst : st = As.reverse ++ .ref a :: rest) (hn : As.length = n) (hr : (rest.map fun v => v.category).sum ≤ 8) (hrm : zroom rm Yc d mc ms cl sl) (hmc : mc ≠ 0)
    (hlv : ∀ q ∈ lv, zok (zn h) q.2) (hrs : ∀ v ∈ rest, zok (zn h) v)
    (hd : decode Y.2.1 pc = .ok (.invokespecial idx, 3)) (hc : CallSem C Yc d mc ms (.ref a :: As) h (fun v h' => Sem C Q n0 Y rm (pc + 3) lv (v.toList ++ rest) h' (cl + mc) (sl + ms))) : Sem C Q n0 Y rm pc lv st h cl sl := by
  intro ad0 p l e s m args below meth c F B ad H locs ls a1 a2 a3 a4 a5 a6
  subst hst
  obtain ⟨w1, w2, w4, w5, w6, w7, w8⟩ := hm
  exact zcall_endA (Yc := Yc) (As := As) F B hmc hlv hrs a1 a3 a5 a6 (va_runI (As := As.map (zv ad)) (rest := rest.map (zv ad)) ⟨F.1, F.2.1, F.2.2.1, F.2.2.2.1, F.2.2.2.2.1⟩ (hc l ad) (cwI (bytes := Yc.2.1) (maxL := Yc.2.2.1) n F.2.2.2.2.1 (zGood w5) (by rw [← w7]; rfl) rfl rfl (F.2.2.2.2.1 _ w4) (F.2.2.2.2.1 _ w1) (F.2.2.2.2.1 _ w2) w6 w8 ⟨hrm.1, hrm.2.1⟩) ⟨zPc_blind, fun U hU hW => ⟨rfl, by rw [hU]; exact a4, zBase_moved B a5 hU hW (fun i hi => a1 i (Or.inr hi))⟩⟩ rfl (by rw [List.length_map]; exact hn) a6.1 (zmapst ad As rest a) (lv_room (zrest ad hr)) hd ⟨hrm.2.2.1, hrm.2.2.2⟩)
theorem S_callIN {Yc : zY} {a idx n d mc ms : Nat} (As rest : List Value) (hm : zmIN Y.1.cls idx Yc n) (hst : st = As.reverse ++ .ref a :: rest) (hn : As.length = n) (hr : (rest.map fun v => v.category).sum ≤ 8) (hrm : zroom rm Yc d mc ms cl sl) (hmc : mc ≠ 0)
    (hlv : ∀ q ∈ lv, zok (zn h) q.2) (hrs : ∀ v ∈ rest, zok (zn h) v)
    (hd : decode Y.2.1 pc = .ok (.invokespecial idx, 3)) (hc : CallSem C Yc d mc ms (.ref a :: As) h (fun v h' => Sem C Q n0 Y rm (pc + 3) lv (v.toList ++ rest) h' (cl + mc) (sl + ms))) : Sem C Q n0 Y rm pc lv st h cl sl := by
  intro ad0 p l e s m args below meth c F B ad H locs ls a1 a2 a3 a4 a5 a6
  subst hst
  obtain ⟨w1, w2, w4, w5, w6, w7, w8⟩ := hm
  have hl : va_Nw (.methodLinkNest Y.1.cls idx Yc.1 "InnPurposes") s := B.2.2.2.2.1 _ _ _ _ w1
  exact zcall_endA (Yc := Yc) (As := As) F B hmc hlv hrs a1 a3 a5 a6 (va_runIN (As := As.map (zv ad)) (rest := rest.map (zv ad)) ⟨F.1, F.2.1, F.2.2.1, F.2.2.2.1, F.2.2.2.2.1⟩ (hc l ad) ⟨va_cnB (bytes := Yc.2.1) (maxL := Yc.2.2.1) (ret := none) n F.2.2.2.2.1 (zGood w5) (by rw [← w7]; rfl) rfl rfl hl (F.2.2.2.2.1 _ w4) w8 ⟨hrm.1, hrm.2.1⟩, w6, F.2.2.2.2.1 _ w2⟩ ⟨zPc_blind, fun U hU hW => ⟨rfl, by rw [hU]; exact a4, zBase_moved B a5 hU hW (fun i hi => a1 i (Or.inr hi))⟩⟩ rfl (by rw [List.length_map]; exact hn) a6.1 (zmapst ad As rest a) (lv_room (zrest ad hr)) hd ⟨hrm.2.2.1, hrm.2.2.2⟩)
/-- a call on a literal -/
theorem S_callT (i : Nat) (hi : i < 10) {Yc : zY} {idx n d : Nat} (As rest : List Value) (hm : zmV Y.1.cls idx Yc n) (hst : st = As.reverse ++ .ref (1000010 + i) :: rest) (hn : As.length = n) (hC : Yc.1.cls = "java/lang/String") (hr : (rest.map fun v => v.category).sum ≤ 8) (hrm : zroom rm Yc d 0 0 cl sl)
    (hd : decode Y.2.1 pc = .ok (.invokevirtual idx, 3)) (hc : CallSem C Yc d 0 0 (.ref (1000010 + i) :: As) h (fun v h' => Sem C Q n0 Y rm (pc + 3) lv (v.toList ++ rest) h' cl sl)) : Sem C Q n0 Y rm pc lv st h cl sl := by
  intro ad0 p l e s m args below meth c F B ad H locs ls a1 a2 a3 a4 a5 a6
  subst hst
  obtain ⟨w1, w2, w3, w4, w5, w6⟩ := hm
  have hrv : ∃ cell : Cell, H[ad (1000010 + i)]? = some cell ∧ cell.vm.isStatics = false ∧ s.vm.findClass Yc.1.cls = some cell.cls := by
    obtain ⟨cell, h1, h2, h3, -⟩ := (B.2.1.2.2.2.2.2.2.2 i hi).1.kept a5.2.1
    exact ⟨cell, by rw [a1 (1000010 + i) (Or.inr (by omega))]; exact h1, h2, by rw [hC]; exact h3⟩
  refine zcall_end (Yc := Yc) (As := As) F B a1 a2 a3 a5 a6 (va_runV (As := As.map (zv ad)) (rest := rest.map (zv ad)) ⟨F.1, F.2.1, F.2.2.1, F.2.2.2.1, F.2.2.2.2.1⟩ (hc l ad) (cwV (bytes := Yc.2.1) (maxL := Yc.2.2.1) (ret := Yc.2.2.2) (C := Yc.1.cls) n F.2.2.2.2.1 (zG_of fun w hw => ?_) rfl rfl rfl ⟨rfl, w6⟩ ⟨hrm.1, hrm.2.1⟩) ⟨zPc_blind, hrv, fun U hU hW => ⟨rfl, by rw [hU]; exact a4, zBase_moved B a5 hU hW (fun i hi => a1 i (Or.inr hi))⟩⟩ rfl (by rw [List.length_map]; exact hn) a6.1 (zmapst ad As rest _) (lv_room (zrest ad hr)) hd ⟨hrm.2.2.1, hrm.2.2.2⟩)
  rcases List.mem_append.mp hw with q | q
  · simp only [List.mem_cons, List.not_mem_nil, or_false] at q
    rcases q with rfl | rfl | rfl | rfl
    · exact w1
    · exact w2
    · exact w3
    · exact w4
  · exact zIn_ws w5 w q
-- natives and Math
theorem S_objInit {a idx d mc ms : Nat} (w1 : Cond.methodLink Y.1.cls idx objectInit ∈ zT) (w2 : Cond.instanceMethod objectInit ∈ zT) (w3 : Cond.code objectInit ⟨#[0xb1]⟩ 1 none ∈ zT) (hr : (st.map fun v => v.category).sum ≤ 8) (hrm : rm = zrm (d + 1) mc ms) (hd : decode Y.2.1 pc = .ok (.invokespecial idx, 3)) (k : Sem C Q n0 Y rm (pc + 3) lv st h cl sl) : Sem C Q n0 Y rm pc lv (.ref a :: st) h cl sl := by
  intro ad0 p l e s m args below meth c F B ad H locs ls a1 a2 a3 a4 a5 a6
  have hz := zrest ad hr
  refine W.objInit F.1 F.2.1 F.2.2.2.1 (F.2.2.2.2.1 _ w1) (F.2.2.2.2.1 _ w2) (F.2.2.2.2.1 _ w3) rfl (a6.1.trans F.2.2.1.symm) rfl hd (by rw [hrm]; exact Nat.succ_le_succ (Nat.zero_le d)) ?_ (k ad0 p l e s m args below meth c F B ad H locs ls a1 a2 a3 a4 a5 a6)
  rw [hrm]
  show 2 * 0 + _ + 12 ≤ 40 * (d + 1)
  omega
theorem S_max {x y : Int32} {idx d mc ms : Nat} (w1 : Cond.methodLink Y.1.cls idx Lib.Math.max.name ∈ zT) (w2 : Cond.static Lib.Math.max.name ∈ zT) (w3 : Cond.initialized "java/lang/Math" ∈ zT) (w4 : Cond.code Lib.Math.max.name Lib.Math.max.code 2 (some .int) ∈ zT) (hr : (st.map fun v => v.category).sum ≤ 8) (hrm : rm = zrm (d + 1) mc ms) (hcs : cl ≤ mc ∧ sl ≤ ms) (hd : decode Y.2.1 pc = .ok (.invokestatic idx, 3)) (k : Sem C Q n0 Y rm (pc + 3) lv (.int (if x < y then y else x) :: st) h cl sl) : Sem C Q n0 Y rm pc lv (.int y :: .int x :: st) h cl sl := by
  intro ad0 p l e s m args below meth c F B ad H locs ls a1 a2 a3 a4 a5 a6
  have hz := zrest ad hr
  refine va_mmax F.1 F.2.1 (F.2.2.1.trans a6.1.symm) F.2.2.2.1 (F.2.2.2.2.1 _ w1) (F.2.2.2.2.1 _ w2) (F.2.2.2.2.1 _ w3) (F.2.2.2.2.1 _ w4) (by rw [hrm]; exact Nat.succ_le_succ (Nat.zero_le d)) ?_ (by rw [hrm]; exact hcs.1) (by rw [hrm]; exact hcs.2) hd (k ad0 p l e s m args below meth c F B ad H locs ls a1 a2 a3 a4 a5 a6)
  rw [hrm]
  show _ + 13 ≤ 40 * (d + 1)
  omega
theorem S_min {x y : Int32} {idx d mc ms : Nat} (w1 : Cond.methodLink Y.1.cls idx Lib.Math.min.name ∈ zT) (w2 : Cond.static Lib.Math.min.name ∈ zT) (w3 : Cond.initialized "java/lang/Math" ∈ zT) (w4 : Cond.code Lib.Math.min.name Lib.Math.min.code 2 (some .int) ∈ zT) (hr : (st.map fun v => v.category).sum ≤ 8) (hrm : rm = zrm (d + 1) mc ms) (hcs : cl ≤ mc ∧ sl ≤ ms) (hd : decode Y.2.1 pc = .ok (.invokestatic idx, 3)) (k : Sem C Q n0 Y rm (pc + 3) lv (.int (if y < x then y else x) :: st) h cl sl) : Sem C Q n0 Y rm pc lv (.int y :: .int x :: st) h cl sl := by
  intro ad0 p l e s m args below meth c F B ad H locs ls a1 a2 a3 a4 a5 a6
  have hz := zrest ad hr
  refine va_mmin F.1 F.2.1 (F.2.2.1.trans a6.1.symm) F.2.2.2.1 (F.2.2.2.2.1 _ w1) (F.2.2.2.2.1 _ w2) (F.2.2.2.2.1 _ w3) (F.2.2.2.2.1 _ w4) (by rw [hrm]; exact Nat.succ_le_succ (Nat.zero_le d)) ?_ (by rw [hrm]; exact hcs.1) (by rw [hrm]; exact hcs.2) hd (k ad0 p l e s m args below meth c F B ad H locs ls a1 a2 a3 a4 a5 a6)
  rw [hrm]
  show _ + 13 ≤ 40 * (d + 1)
  omega
/-- System.arraycopy, of ints and of longs -/
theorem S_copyI {a a0 n1 n2 : Nat} {sp dp n : Int32} {idx d mc ms : Nat} (w1 : Cond.methodLink Y.1.cls idx arraycopyName ∈ zT) (w2 : Cond.native arraycopyName ∈ zT) (w3 : Cond.static arraycopyName ∈ zT) (w4 : Cond.initialized "java/lang/System" ∈ zT) (hs0 : zs h a0 = (12, n1)) (hs1 : zs h a = (12, n2)) (h1 : ¬ sp < 0) (h2 : ¬ dp < 0) (h3 : ¬ n < 0) (h4 : sp.toNatClampNeg + n.toNatClampNeg ≤ n1) (h5 : dp.toNatClampNeg + n.toNatClampNeg ≤ n2) (hr : (st.map fun v => v.category).sum ≤ 8) (hrm : rm = zrm (d + 1) mc ms) (hd : decode Y.2.1 pc = .ok (.invokestatic idx, 3))
    (k : Sem C Q n0 Y rm (pc + 3) lv st (zrI h a (va_cpy (zI h a0) (zI h a) sp.toNatClampNeg dp.toNatClampNeg n.toNatClampNeg)) cl sl) : Sem C Q n0 Y rm pc lv (.int n :: .int dp :: .ref a :: .int sp :: .ref a0 :: st) h cl sl := by
  intro ad0 p l e s m args below meth c F B ad H locs ls a1 a2 a3 a4 a5 a6
  have hz := zrest ad hr
  refine va_copyi F.1 F.2.1 (F.2.2.1.trans a6.1.symm) F.2.2.2.1 (F.2.2.2.2.1 _ w1) (F.2.2.2.2.1 _ w2) (F.2.2.2.2.1 _ w3) (F.2.2.2.2.1 _ w4) B.1 a4.1 a4.2.1 a5 a0 a 0 0 (zat_i a4 hs0) (zat_i a4 hs1) rfl rfl rfl h1 h2 h3 h4 h5 (fun _ _ => rfl) (by rw [hrm]; exact Nat.succ_le_succ (Nat.zero_le d)) ?_ hd (fun H1 locs1 hP hD hS => k ad0 p l e s m args below meth c F B ad H1 locs1 ls a1 a2 a3 (zWd_set a4 rfl rfl ?_ (fun i hi => zcell_rI hi) hP hD) hS a6)
  · rw [hrm, show nativeFrameWords "java/lang/System" "arraycopy" 5 = 7 by decide +kernel]
    show _ + (7 + 11) ≤ 40 * (d + 1)
    omega
  · rw [zcell_i (h := zrI h a _) hs1, show zI (zrI h a _) a = _ from uR_s _ _ _]
theorem S_copyL {a a0 n1 n2 : Nat} {sp dp n : Int32} {idx d mc ms : Nat} (w1 : Cond.methodLink Y.1.cls idx arraycopyName ∈ zT) (w2 : Cond.native arraycopyName ∈ zT) (w3 : Cond.static arraycopyName ∈ zT) (w4 : Cond.initialized "java/lang/System" ∈ zT) (hs0 : zs h a0 = (13, n1)) (hs1 : zs h a = (13, n2)) (h1 : ¬ sp < 0) (h2 : ¬ dp < 0) (h3 : ¬ n < 0) (h4 : sp.toNatClampNeg + n.toNatClampNeg ≤ n1) (h5 : dp.toNatClampNeg + n.toNatClampNeg ≤ n2) (hr : (st.map fun v => v.category).sum ≤ 8) (hrm : rm = zrm (d + 1) mc ms) (hd : decode Y.2.1 pc = .ok (.invokestatic idx, 3))
    (k : Sem C Q n0 Y rm (pc + 3) lv st (zrL h a (va_cpy (zL h a0) (zL h a) sp.toNatClampNeg dp.toNatClampNeg n.toNatClampNeg)) cl sl) : Sem C Q n0 Y rm pc lv (.int n :: .int dp :: .ref a :: .int sp :: .ref a0 :: st) h cl sl := by
  intro ad0 p l e s m args below meth c F B ad H locs ls a1 a2 a3 a4 a5 a6
  have hz := zrest ad hr
  refine va_copyl F.1 F.2.1 (F.2.2.1.trans a6.1.symm) F.2.2.2.1 (F.2.2.2.2.1 _ w1) (F.2.2.2.2.1 _ w2) (F.2.2.2.2.1 _ w3) (F.2.2.2.2.1 _ w4) B.1 a4.1 a4.2.1 a5 a0 a 1 1 (zat_l a4 hs0) (zat_l a4 hs1) rfl rfl rfl h1 h2 h3 h4 h5 (fun _ _ => rfl) (by rw [hrm]; exact Nat.succ_le_succ (Nat.zero_le d)) ?_ hd (fun H1 locs1 hP hD hS => k ad0 p l e s m args below meth c F B ad H1 locs1 ls a1 a2 a3 (zWd_set a4 rfl rfl ?_ (fun i hi => zcell_rL hi) hP hD) hS a6)
  · rw [hrm, show nativeFrameWords "java/lang/System" "arraycopy" 5 = 7 by decide +kernel]
    show _ + (7 + 11) ≤ 40 * (d + 1)
    omega
  · rw [zcell_l (h := zrL h a _) hs1, show zL (zrL h a _) a = _ from uR_s _ _ _]
end ZC
section ZE
variable {C : zC} {Y : zY} {rm : Room} {pc : Nat} {lv : List (Nat × Value)} {h h0 : zH} {mc ms : Nat} {R : Option Value → zH → Prop}
theorem zQc_end {ad0 ad : Nat → Nat} {s t : State} {H : Heap} {locs : List Loc} {args : Array Value} {v : Option Value} (a1 : ∀ i, (i < zn h0 ∨ 1000000 ≤ i) → ad i = ad0 i) (a2 : mc = 0 → ad = ad0) (a3 : zn h0 ≤ zn h) (a4 : zWd C ad h H) (a5 : va_S (zA C) s.heap H locs) (hR : R v h) (ht : t.heap = H) : zQc C ad0 h0 mc R args s (.returned (v.map (zv ad))) t :=
  ⟨⟨v, h, ad, rfl, a2, a1, a3, by rw [ht]; exact a4, hR⟩, a5.F ht⟩
theorem S_ireti {x : Int32} (hret : Y.2.2.2 = some .int) (hd : decode Y.2.1 pc = .ok (.ireturn, 1)) (hR : R (some (.int x)) h) : Sem C (zQm C h0 mc ms R) (zn h0) Y rm pc lv [.int x] h mc ms :=
  fun ad0 p l e s m args below meth c F B ad H locs ls a1 a2 a3 a4 a5 a6 => W.iret F.1 F.2.1 (F.2.2.2.2.2.1.trans hret) (fun t ht hW => zQc_end (v := some (.int x)) a1 a2 a3 a4 a5 hR ht) a5.2.2 hd F.2.2.2.2.2.2.1
theorem S_iretz {x : Int32} (hret : Y.2.2.2 = some .boolean) (hx : x = 0 ∨ x = 1) (hd : decode Y.2.1 pc = .ok (.ireturn, 1)) (hR : R (some (.int x)) h) : Sem C (zQm C h0 mc ms R) (zn h0) Y rm pc lv [.int x] h mc ms :=
  fun ad0 p l e s m args below meth c F B ad H locs ls a1 a2 a3 a4 a5 a6 => W.zret F.1 F.2.1 (F.2.2.2.2.2.1.trans hret) (by rcases hx with rfl | rfl <;> rfl) (fun t ht hW => zQc_end (v := some (.int x)) a1 a2 a3 a4 a5 hR ht) a5.2.2 hd F.2.2.2.2.2.2.1
theorem S_iretn {x : Int32} {ty : FieldType} (hret : Y.2.2.2 = some ty) (hx : narrow ty (.int x) = .int x) (hd : decode Y.2.1 pc = .ok (.ireturn, 1)) (hR : R (some (.int x)) h) : Sem C (zQm C h0 mc ms R) (zn h0) Y rm pc lv [.int x] h mc ms :=
  fun ad0 p l e s m args below meth c F B ad H locs ls a1 a2 a3 a4 a5 a6 => W.zret F.1 F.2.1 (F.2.2.2.2.2.1.trans hret) hx (fun t ht hW => zQc_end (v := some (.int x)) a1 a2 a3 a4 a5 hR ht) a5.2.2 hd F.2.2.2.2.2.2.1
theorem S_lret {x : Int64} (hret : Y.2.2.2 = some .long) (hd : decode Y.2.1 pc = .ok (.lreturn, 1)) (hR : R (some (.long x)) h) : Sem C (zQm C h0 mc ms R) (zn h0) Y rm pc lv [.long x] h mc ms :=
  fun ad0 p l e s m args below meth c F B ad H locs ls a1 a2 a3 a4 a5 a6 => W.lret F.1 F.2.1 (F.2.2.2.2.2.1.trans hret) (fun t ht hW => zQc_end (v := some (.long x)) a1 a2 a3 a4 a5 hR ht) a5.2.2 hd F.2.2.2.2.2.2.1
theorem S_aret {a : Nat} {rt : FieldType} (hret : Y.2.2.2 = some rt) (hrt : (∃ n, rt = .object n) ∨ ∃ t, rt = .array t) (hd : decode Y.2.1 pc = .ok (.areturn, 1)) (hR : R (some (.ref a)) h) : Sem C (zQm C h0 mc ms R) (zn h0) Y rm pc lv [.ref a] h mc ms :=
  fun ad0 p l e s m args below meth c F B ad H locs ls a1 a2 a3 a4 a5 a6 => W.aret F.1 F.2.1 (F.2.2.2.2.2.1.trans hret) hrt (Or.inr ⟨_, rfl⟩) (fun t ht hW => zQc_end (v := some (.ref a)) a1 a2 a3 a4 a5 hR ht) a5.2.2 hd F.2.2.2.2.2.2.1
theorem S_vret (hret : Y.2.2.2 = none) (hd : decode Y.2.1 pc = .ok (.return_, 1)) (hR : R none h) : Sem C (zQm C h0 mc ms R) (zn h0) Y rm pc lv [] h mc ms :=
  fun ad0 p l e s m args below meth c F B ad H locs ls a1 a2 a3 a4 a5 a6 => W.vret F.1 F.2.1 (F.2.2.2.2.2.1.trans hret) (fun t ht hW => zQc_end (v := none) a1 a2 a3 a4 a5 hR ht) a5.2.2 hd F.2.2.2.2.2.2.1
end ZE
end
