-- ===== PART A: goes FIRST, ahead of the names: the tables' words, and 'selects' of the private methods out of them =====
/-- a private method of a class that the tables say can be made, by its rows of tables_1 -/
def lw_okq (q : MethodName × Nat) : Prop := (q.1.cls ≠ "java/lang/invoke/MethodHandle" ∧ q.1.cls ≠ "java/lang/invoke/VarHandle") ∧ Cond.instantiable q.1.cls q.2 ∈ tables_1 ∧ Cond.privateMethod q.1 ∈ tables_1 ∧ Cond.instanceMethod q.1 ∈ tables_1
theorem lw_p0 : lw_okq (⟨"FavoursGoOff$Table", "placeOf", "(II)I"⟩, 3) := ⟨⟨by decide +kernel, by decide +kernel⟩, List.mem_of_getElem? (i := 39) (by decide +kernel), List.mem_of_getElem? (i := 294) (by decide +kernel), List.mem_of_getElem? (i := 295) (by decide +kernel)⟩
theorem lw_p1 : lw_okq (⟨"FavoursGoOff", "bad", "(I)I"⟩, 13) := ⟨⟨by decide +kernel, by decide +kernel⟩, List.mem_of_getElem? (i := 19) (by decide +kernel), List.mem_of_getElem? (i := 349) (by decide +kernel), List.mem_of_getElem? (i := 350) (by decide +kernel)⟩
theorem lw_p2 : lw_okq (⟨"FavoursGoOff", "full", "()I"⟩, 13) := ⟨⟨by decide +kernel, by decide +kernel⟩, List.mem_of_getElem? (i := 19) (by decide +kernel), List.mem_of_getElem? (i := 377) (by decide +kernel), List.mem_of_getElem? (i := 378) (by decide +kernel)⟩
theorem lw_p3 : lw_okq (⟨"FavoursGoOff", "isDayToCome", "(I)Z"⟩, 13) := ⟨⟨by decide +kernel, by decide +kernel⟩, List.mem_of_getElem? (i := 19) (by decide +kernel), List.mem_of_getElem? (i := 389) (by decide +kernel), List.mem_of_getElem? (i := 390) (by decide +kernel)⟩
theorem lw_p4 : lw_okq (⟨"FavoursGoOff$Reader", "step", "()V"⟩, 8) := ⟨⟨by decide +kernel, by decide +kernel⟩, List.mem_of_getElem? (i := 113) (by decide +kernel), List.mem_of_getElem? (i := 422) (by decide +kernel), List.mem_of_getElem? (i := 423) (by decide +kernel)⟩
theorem lw_p5 : lw_okq (⟨"FavoursGoOff$Reader", "endOfRun", "(II)I"⟩, 8) := ⟨⟨by decide +kernel, by decide +kernel⟩, List.mem_of_getElem? (i := 113) (by decide +kernel), List.mem_of_getElem? (i := 431) (by decide +kernel), List.mem_of_getElem? (i := 432) (by decide +kernel)⟩
theorem lw_p6 : lw_okq (⟨"FavoursGoOff$Reader", "takeFigures", "()V"⟩, 8) := ⟨⟨by decide +kernel, by decide +kernel⟩, List.mem_of_getElem? (i := 113) (by decide +kernel), List.mem_of_getElem? (i := 435) (by decide +kernel), List.mem_of_getElem? (i := 436) (by decide +kernel)⟩
theorem lw_p7 : lw_okq (⟨"FavoursGoOff$Reader", "readPeople", "()V"⟩, 8) := ⟨⟨by decide +kernel, by decide +kernel⟩, List.mem_of_getElem? (i := 113) (by decide +kernel), List.mem_of_getElem? (i := 439) (by decide +kernel), List.mem_of_getElem? (i := 440) (by decide +kernel)⟩
theorem lw_p8 : lw_okq (⟨"FavoursGoOff$Reader", "isWord", "(Ljava/lang/String;)Z"⟩, 8) := ⟨⟨by decide +kernel, by decide +kernel⟩, List.mem_of_getElem? (i := 113) (by decide +kernel), List.mem_of_getElem? (i := 444) (by decide +kernel), List.mem_of_getElem? (i := 445) (by decide +kernel)⟩
theorem lw_p9 : lw_okq (⟨"FavoursGoOff$Reader", "fail", "()V"⟩, 8) := ⟨⟨by decide +kernel, by decide +kernel⟩, List.mem_of_getElem? (i := 113) (by decide +kernel), List.mem_of_getElem? (i := 496) (by decide +kernel), List.mem_of_getElem? (i := 497) (by decide +kernel)⟩
theorem lw_p10 : lw_okq (⟨"FavoursGoOff$Reader", "takeNumber", "(II)I"⟩, 8) := ⟨⟨by decide +kernel, by decide +kernel⟩, List.mem_of_getElem? (i := 113) (by decide +kernel), List.mem_of_getElem? (i := 500) (by decide +kernel), List.mem_of_getElem? (i := 501) (by decide +kernel)⟩
theorem lw_p11 : lw_okq (⟨"FavoursGoOff$Reader", "takeStop", "()V"⟩, 8) := ⟨⟨by decide +kernel, by decide +kernel⟩, List.mem_of_getElem? (i := 113) (by decide +kernel), List.mem_of_getElem? (i := 504) (by decide +kernel), List.mem_of_getElem? (i := 505) (by decide +kernel)⟩
theorem lw_p12 : lw_okq (⟨"FavoursGoOff$Reader", "readItem", "()V"⟩, 8) := ⟨⟨by decide +kernel, by decide +kernel⟩, List.mem_of_getElem? (i := 113) (by decide +kernel), List.mem_of_getElem? (i := 509) (by decide +kernel), List.mem_of_getElem? (i := 510) (by decide +kernel)⟩
theorem lw_p13 : lw_okq (⟨"FavoursGoOff$Reader", "readStrong", "()V"⟩, 8) := ⟨⟨by decide +kernel, by decide +kernel⟩, List.mem_of_getElem? (i := 113) (by decide +kernel), List.mem_of_getElem? (i := 514) (by decide +kernel), List.mem_of_getElem? (i := 515) (by decide +kernel)⟩
theorem lw_p14 : lw_okq (⟨"FavoursGoOff$Reader", "readFavour", "()V"⟩, 8) := ⟨⟨by decide +kernel, by decide +kernel⟩, List.mem_of_getElem? (i := 113) (by decide +kernel), List.mem_of_getElem? (i := 521) (by decide +kernel), List.mem_of_getElem? (i := 522) (by decide +kernel)⟩
theorem lw_p15 : lw_okq (⟨"FavoursGoOff$Reader", "refuse", "(I)V"⟩, 8) := ⟨⟨by decide +kernel, by decide +kernel⟩, List.mem_of_getElem? (i := 113) (by decide +kernel), List.mem_of_getElem? (i := 525) (by decide +kernel), List.mem_of_getElem? (i := 526) (by decide +kernel)⟩
def lw_privs_1 : List (MethodName × Nat) := [(⟨"FavoursGoOff$Table", "placeOf", "(II)I"⟩, 3), (⟨"FavoursGoOff", "bad", "(I)I"⟩, 13), (⟨"FavoursGoOff", "full", "()I"⟩, 13), (⟨"FavoursGoOff", "isDayToCome", "(I)Z"⟩, 13), (⟨"FavoursGoOff$Reader", "step", "()V"⟩, 8), (⟨"FavoursGoOff$Reader", "endOfRun", "(II)I"⟩, 8), (⟨"FavoursGoOff$Reader", "takeFigures", "()V"⟩, 8), (⟨"FavoursGoOff$Reader", "readPeople", "()V"⟩, 8), (⟨"FavoursGoOff$Reader", "isWord", "(Ljava/lang/String;)Z"⟩, 8), (⟨"FavoursGoOff$Reader", "fail", "()V"⟩, 8), (⟨"FavoursGoOff$Reader", "takeNumber", "(II)I"⟩, 8), (⟨"FavoursGoOff$Reader", "takeStop", "()V"⟩, 8), (⟨"FavoursGoOff$Reader", "readItem", "()V"⟩, 8), (⟨"FavoursGoOff$Reader", "readStrong", "()V"⟩, 8), (⟨"FavoursGoOff$Reader", "readFavour", "()V"⟩, 8), (⟨"FavoursGoOff$Reader", "refuse", "(I)V"⟩, 8)]
theorem lw_r1 : ∀ q ∈ lw_privs_1, lw_okq q := List.forall_mem_cons.mpr ⟨lw_p0, List.forall_mem_cons.mpr ⟨lw_p1, List.forall_mem_cons.mpr ⟨lw_p2, List.forall_mem_cons.mpr ⟨lw_p3, List.forall_mem_cons.mpr ⟨lw_p4, List.forall_mem_cons.mpr ⟨lw_p5, List.forall_mem_cons.mpr ⟨lw_p6, List.forall_mem_cons.mpr ⟨lw_p7, List.forall_mem_cons.mpr ⟨lw_p8, List.forall_mem_cons.mpr ⟨lw_p9, List.forall_mem_cons.mpr ⟨lw_p10, List.forall_mem_cons.mpr ⟨lw_p11, List.forall_mem_cons.mpr ⟨lw_p12, List.forall_mem_cons.mpr ⟨lw_p13, List.forall_mem_cons.mpr ⟨lw_p14, List.forall_mem_cons.mpr ⟨lw_p15, fun _ h => absurd h List.not_mem_nil⟩⟩⟩⟩⟩⟩⟩⟩⟩⟩⟩⟩⟩⟩⟩⟩
theorem lw_p16 : lw_okq (⟨"FavoursGoOff$Reader", "readNeed", "()V"⟩, 8) := ⟨⟨by decide +kernel, by decide +kernel⟩, List.mem_of_getElem? (i := 113) (by decide +kernel), List.mem_of_getElem? (i := 531) (by decide +kernel), List.mem_of_getElem? (i := 532) (by decide +kernel)⟩
theorem lw_p17 : lw_okq (⟨"FavoursGoOff", "no", "(I)I"⟩, 13) := ⟨⟨by decide +kernel, by decide +kernel⟩, List.mem_of_getElem? (i := 19) (by decide +kernel), List.mem_of_getElem? (i := 574) (by decide +kernel), List.mem_of_getElem? (i := 575) (by decide +kernel)⟩
theorem lw_p18 : lw_okq (⟨"FavoursGoOff", "findRing", "()V"⟩, 13) := ⟨⟨by decide +kernel, by decide +kernel⟩, List.mem_of_getElem? (i := 19) (by decide +kernel), List.mem_of_getElem? (i := 651) (by decide +kernel), List.mem_of_getElem? (i := 652) (by decide +kernel)⟩
theorem lw_p19 : lw_okq (⟨"FavoursGoOff$Circle", "holds", "(II)Z"⟩, 2) := ⟨⟨by decide +kernel, by decide +kernel⟩, List.mem_of_getElem? (i := 194) (by decide +kernel), List.mem_of_getElem? (i := 667) (by decide +kernel), List.mem_of_getElem? (i := 668) (by decide +kernel)⟩
theorem lw_p20 : lw_okq (⟨"FavoursGoOff$Debts", "doneFor", "(II)I"⟩, 6) := ⟨⟨by decide +kernel, by decide +kernel⟩, List.mem_of_getElem? (i := 164) (by decide +kernel), List.mem_of_getElem? (i := 689) (by decide +kernel), List.mem_of_getElem? (i := 690) (by decide +kernel)⟩
theorem lw_p21 : lw_okq (⟨"FavoursGoOff$Debts", "dueFrom", "(I)I"⟩, 6) := ⟨⟨by decide +kernel, by decide +kernel⟩, List.mem_of_getElem? (i := 164) (by decide +kernel), List.mem_of_getElem? (i := 694) (by decide +kernel), List.mem_of_getElem? (i := 695) (by decide +kernel)⟩
theorem lw_p22 : lw_okq (⟨"FavoursGoOff$Debts", "mostGroups", "(I)I"⟩, 6) := ⟨⟨by decide +kernel, by decide +kernel⟩, List.mem_of_getElem? (i := 164) (by decide +kernel), List.mem_of_getElem? (i := 707) (by decide +kernel), List.mem_of_getElem? (i := 708) (by decide +kernel)⟩
theorem lw_p23 : lw_okq (⟨"FavoursGoOff$Plan", "layOut", "(LFavoursGoOff$Street;I)V"⟩, 13) := ⟨⟨by decide +kernel, by decide +kernel⟩, List.mem_of_getElem? (i := 208) (by decide +kernel), List.mem_of_getElem? (i := 722) (by decide +kernel), List.mem_of_getElem? (i := 723) (by decide +kernel)⟩
theorem lw_p24 : lw_okq (⟨"FavoursGoOff$Plan", "lookAhead", "()V"⟩, 13) := ⟨⟨by decide +kernel, by decide +kernel⟩, List.mem_of_getElem? (i := 208) (by decide +kernel), List.mem_of_getElem? (i := 728) (by decide +kernel), List.mem_of_getElem? (i := 729) (by decide +kernel)⟩
theorem lw_p25 : lw_okq (⟨"FavoursGoOff$Plan", "keepIfBetter", "(II)V"⟩, 13) := ⟨⟨by decide +kernel, by decide +kernel⟩, List.mem_of_getElem? (i := 208) (by decide +kernel), List.mem_of_getElem? (i := 735) (by decide +kernel), List.mem_of_getElem? (i := 736) (by decide +kernel)⟩
theorem lw_p26 : lw_okq (⟨"FavoursGoOff$Plan", "isNoBetter", "(II)Z"⟩, 13) := ⟨⟨by decide +kernel, by decide +kernel⟩, List.mem_of_getElem? (i := 208) (by decide +kernel), List.mem_of_getElem? (i := 739) (by decide +kernel), List.mem_of_getElem? (i := 740) (by decide +kernel)⟩
theorem lw_p27 : lw_okq (⟨"FavoursGoOff", "imageAt", "(I)LFavoursGoOff$History;"⟩, 13) := ⟨⟨by decide +kernel, by decide +kernel⟩, List.mem_of_getElem? (i := 19) (by decide +kernel), List.mem_of_getElem? (i := 837) (by decide +kernel), List.mem_of_getElem? (i := 838) (by decide +kernel)⟩
theorem lw_p28 : lw_okq (⟨"FavoursGoOff", "howMany", "(I)I"⟩, 13) := ⟨⟨by decide +kernel, by decide +kernel⟩, List.mem_of_getElem? (i := 19) (by decide +kernel), List.mem_of_getElem? (i := 857) (by decide +kernel), List.mem_of_getElem? (i := 858) (by decide +kernel)⟩
theorem lw_p29 : lw_okq (⟨"FavoursGoOffModel", "bad", "(I)I"⟩, 24) := ⟨⟨by decide +kernel, by decide +kernel⟩, List.mem_of_getElem? (i := 872) (by decide +kernel), List.mem_of_getElem? (i := 964) (by decide +kernel), List.mem_of_getElem? (i := 965) (by decide +kernel)⟩
theorem lw_p30 : lw_okq (⟨"FavoursGoOffModel", "many", "()I"⟩, 24) := ⟨⟨by decide +kernel, by decide +kernel⟩, List.mem_of_getElem? (i := 872) (by decide +kernel), List.mem_of_getElem? (i := 968) (by decide +kernel), List.mem_of_getElem? (i := 969) (by decide +kernel)⟩
theorem lw_p31 : lw_okq (⟨"FavoursGoOffModel", "isOne", "(I)Z"⟩, 24) := ⟨⟨by decide +kernel, by decide +kernel⟩, List.mem_of_getElem? (i := 872) (by decide +kernel), List.mem_of_getElem? (i := 976) (by decide +kernel), List.mem_of_getElem? (i := 977) (by decide +kernel)⟩
def lw_privs_2 : List (MethodName × Nat) := [(⟨"FavoursGoOff$Reader", "readNeed", "()V"⟩, 8), (⟨"FavoursGoOff", "no", "(I)I"⟩, 13), (⟨"FavoursGoOff", "findRing", "()V"⟩, 13), (⟨"FavoursGoOff$Circle", "holds", "(II)Z"⟩, 2), (⟨"FavoursGoOff$Debts", "doneFor", "(II)I"⟩, 6), (⟨"FavoursGoOff$Debts", "dueFrom", "(I)I"⟩, 6), (⟨"FavoursGoOff$Debts", "mostGroups", "(I)I"⟩, 6), (⟨"FavoursGoOff$Plan", "layOut", "(LFavoursGoOff$Street;I)V"⟩, 13), (⟨"FavoursGoOff$Plan", "lookAhead", "()V"⟩, 13), (⟨"FavoursGoOff$Plan", "keepIfBetter", "(II)V"⟩, 13), (⟨"FavoursGoOff$Plan", "isNoBetter", "(II)Z"⟩, 13), (⟨"FavoursGoOff", "imageAt", "(I)LFavoursGoOff$History;"⟩, 13), (⟨"FavoursGoOff", "howMany", "(I)I"⟩, 13), (⟨"FavoursGoOffModel", "bad", "(I)I"⟩, 24), (⟨"FavoursGoOffModel", "many", "()I"⟩, 24), (⟨"FavoursGoOffModel", "isOne", "(I)Z"⟩, 24)]
theorem lw_r2 : ∀ q ∈ lw_privs_2, lw_okq q := List.forall_mem_cons.mpr ⟨lw_p16, List.forall_mem_cons.mpr ⟨lw_p17, List.forall_mem_cons.mpr ⟨lw_p18, List.forall_mem_cons.mpr ⟨lw_p19, List.forall_mem_cons.mpr ⟨lw_p20, List.forall_mem_cons.mpr ⟨lw_p21, List.forall_mem_cons.mpr ⟨lw_p22, List.forall_mem_cons.mpr ⟨lw_p23, List.forall_mem_cons.mpr ⟨lw_p24, List.forall_mem_cons.mpr ⟨lw_p25, List.forall_mem_cons.mpr ⟨lw_p26, List.forall_mem_cons.mpr ⟨lw_p27, List.forall_mem_cons.mpr ⟨lw_p28, List.forall_mem_cons.mpr ⟨lw_p29, List.forall_mem_cons.mpr ⟨lw_p30, List.forall_mem_cons.mpr ⟨lw_p31, fun _ h => absurd h List.not_mem_nil⟩⟩⟩⟩⟩⟩⟩⟩⟩⟩⟩⟩⟩⟩⟩⟩
theorem lw_p32 : lw_okq (⟨"FavoursGoOffModel", "full", "()I"⟩, 24) := ⟨⟨by decide +kernel, by decide +kernel⟩, List.mem_of_getElem? (i := 872) (by decide +kernel), List.mem_of_getElem? (i := 994) (by decide +kernel), List.mem_of_getElem? (i := 995) (by decide +kernel)⟩
theorem lw_p33 : lw_okq (⟨"FavoursGoOffModel", "day", "()I"⟩, 24) := ⟨⟨by decide +kernel, by decide +kernel⟩, List.mem_of_getElem? (i := 872) (by decide +kernel), List.mem_of_getElem? (i := 998) (by decide +kernel), List.mem_of_getElem? (i := 999) (by decide +kernel)⟩
theorem lw_p34 : lw_okq (⟨"FavoursGoOffModel", "isFavour", "(I)Z"⟩, 24) := ⟨⟨by decide +kernel, by decide +kernel⟩, List.mem_of_getElem? (i := 872) (by decide +kernel), List.mem_of_getElem? (i := 1020) (by decide +kernel), List.mem_of_getElem? (i := 1021) (by decide +kernel)⟩
theorem lw_p35 : lw_okq (⟨"FavoursGoOffModel", "valueOf", "(II)I"⟩, 24) := ⟨⟨by decide +kernel, by decide +kernel⟩, List.mem_of_getElem? (i := 872) (by decide +kernel), List.mem_of_getElem? (i := 1024) (by decide +kernel), List.mem_of_getElem? (i := 1025) (by decide +kernel)⟩
theorem lw_p36 : lw_okq (⟨"FavoursGoOffModel", "told0", "(II)I"⟩, 24) := ⟨⟨by decide +kernel, by decide +kernel⟩, List.mem_of_getElem? (i := 872) (by decide +kernel), List.mem_of_getElem? (i := 1028) (by decide +kernel), List.mem_of_getElem? (i := 1029) (by decide +kernel)⟩
theorem lw_p37 : lw_okq (⟨"FavoursGoOffModel", "valueNow", "(I)I"⟩, 24) := ⟨⟨by decide +kernel, by decide +kernel⟩, List.mem_of_getElem? (i := 872) (by decide +kernel), List.mem_of_getElem? (i := 1043) (by decide +kernel), List.mem_of_getElem? (i := 1044) (by decide +kernel)⟩
theorem lw_p38 : lw_okq (⟨"FavoursGoOffModel", "no", "(I)I"⟩, 24) := ⟨⟨by decide +kernel, by decide +kernel⟩, List.mem_of_getElem? (i := 872) (by decide +kernel), List.mem_of_getElem? (i := 1047) (by decide +kernel), List.mem_of_getElem? (i := 1048) (by decide +kernel)⟩
theorem lw_p39 : lw_okq (⟨"FavoursGoOffModel", "lose", "(I)V"⟩, 24) := ⟨⟨by decide +kernel, by decide +kernel⟩, List.mem_of_getElem? (i := 872) (by decide +kernel), List.mem_of_getElem? (i := 1051) (by decide +kernel), List.mem_of_getElem? (i := 1052) (by decide +kernel)⟩
theorem lw_p40 : lw_okq (⟨"FavoursGoOffModel", "owesTo", "(II)I"⟩, 24) := ⟨⟨by decide +kernel, by decide +kernel⟩, List.mem_of_getElem? (i := 872) (by decide +kernel), List.mem_of_getElem? (i := 1075) (by decide +kernel), List.mem_of_getElem? (i := 1076) (by decide +kernel)⟩
theorem lw_p41 : lw_okq (⟨"FavoursGoOffModel", "findRing", "()V"⟩, 24) := ⟨⟨by decide +kernel, by decide +kernel⟩, List.mem_of_getElem? (i := 872) (by decide +kernel), List.mem_of_getElem? (i := 1083) (by decide +kernel), List.mem_of_getElem? (i := 1084) (by decide +kernel)⟩
theorem lw_p42 : lw_okq (⟨"FavoursGoOffModel", "layRing", "(II)Z"⟩, 24) := ⟨⟨by decide +kernel, by decide +kernel⟩, List.mem_of_getElem? (i := 872) (by decide +kernel), List.mem_of_getElem? (i := 1087) (by decide +kernel), List.mem_of_getElem? (i := 1088) (by decide +kernel)⟩
theorem lw_p43 : lw_okq (⟨"FavoursGoOffModel", "leastOf", "(II)I"⟩, 24) := ⟨⟨by decide +kernel, by decide +kernel⟩, List.mem_of_getElem? (i := 872) (by decide +kernel), List.mem_of_getElem? (i := 1095) (by decide +kernel), List.mem_of_getElem? (i := 1096) (by decide +kernel)⟩
theorem lw_p44 : lw_okq (⟨"FavoursGoOffModel", "netOf", "(I)I"⟩, 24) := ⟨⟨by decide +kernel, by decide +kernel⟩, List.mem_of_getElem? (i := 872) (by decide +kernel), List.mem_of_getElem? (i := 1103) (by decide +kernel), List.mem_of_getElem? (i := 1104) (by decide +kernel)⟩
theorem lw_p45 : lw_okq (⟨"FavoursGoOffModel", "findMet", "()V"⟩, 24) := ⟨⟨by decide +kernel, by decide +kernel⟩, List.mem_of_getElem? (i := 872) (by decide +kernel), List.mem_of_getElem? (i := 1115) (by decide +kernel), List.mem_of_getElem? (i := 1116) (by decide +kernel)⟩
theorem lw_p46 : lw_okq (⟨"FavoursGoOffModel", "fits", "(I)Z"⟩, 24) := ⟨⟨by decide +kernel, by decide +kernel⟩, List.mem_of_getElem? (i := 872) (by decide +kernel), List.mem_of_getElem? (i := 1119) (by decide +kernel), List.mem_of_getElem? (i := 1120) (by decide +kernel)⟩
theorem lw_p47 : lw_okq (⟨"FavoursGoOffModel", "mayMeet", "(II)Z"⟩, 24) := ⟨⟨by decide +kernel, by decide +kernel⟩, List.mem_of_getElem? (i := 872) (by decide +kernel), List.mem_of_getElem? (i := 1123) (by decide +kernel), List.mem_of_getElem? (i := 1124) (by decide +kernel)⟩
def lw_privs_3 : List (MethodName × Nat) := [(⟨"FavoursGoOffModel", "full", "()I"⟩, 24), (⟨"FavoursGoOffModel", "day", "()I"⟩, 24), (⟨"FavoursGoOffModel", "isFavour", "(I)Z"⟩, 24), (⟨"FavoursGoOffModel", "valueOf", "(II)I"⟩, 24), (⟨"FavoursGoOffModel", "told0", "(II)I"⟩, 24), (⟨"FavoursGoOffModel", "valueNow", "(I)I"⟩, 24), (⟨"FavoursGoOffModel", "no", "(I)I"⟩, 24), (⟨"FavoursGoOffModel", "lose", "(I)V"⟩, 24), (⟨"FavoursGoOffModel", "owesTo", "(II)I"⟩, 24), (⟨"FavoursGoOffModel", "findRing", "()V"⟩, 24), (⟨"FavoursGoOffModel", "layRing", "(II)Z"⟩, 24), (⟨"FavoursGoOffModel", "leastOf", "(II)I"⟩, 24), (⟨"FavoursGoOffModel", "netOf", "(I)I"⟩, 24), (⟨"FavoursGoOffModel", "findMet", "()V"⟩, 24), (⟨"FavoursGoOffModel", "fits", "(I)Z"⟩, 24), (⟨"FavoursGoOffModel", "mayMeet", "(II)Z"⟩, 24)]
theorem lw_r3 : ∀ q ∈ lw_privs_3, lw_okq q := List.forall_mem_cons.mpr ⟨lw_p32, List.forall_mem_cons.mpr ⟨lw_p33, List.forall_mem_cons.mpr ⟨lw_p34, List.forall_mem_cons.mpr ⟨lw_p35, List.forall_mem_cons.mpr ⟨lw_p36, List.forall_mem_cons.mpr ⟨lw_p37, List.forall_mem_cons.mpr ⟨lw_p38, List.forall_mem_cons.mpr ⟨lw_p39, List.forall_mem_cons.mpr ⟨lw_p40, List.forall_mem_cons.mpr ⟨lw_p41, List.forall_mem_cons.mpr ⟨lw_p42, List.forall_mem_cons.mpr ⟨lw_p43, List.forall_mem_cons.mpr ⟨lw_p44, List.forall_mem_cons.mpr ⟨lw_p45, List.forall_mem_cons.mpr ⟨lw_p46, List.forall_mem_cons.mpr ⟨lw_p47, fun _ h => absurd h List.not_mem_nil⟩⟩⟩⟩⟩⟩⟩⟩⟩⟩⟩⟩⟩⟩⟩⟩
theorem lw_p48 : lw_okq (⟨"FavoursGoOffModel", "need0", "(II)I"⟩, 24) := ⟨⟨by decide +kernel, by decide +kernel⟩, List.mem_of_getElem? (i := 872) (by decide +kernel), List.mem_of_getElem? (i := 1127) (by decide +kernel), List.mem_of_getElem? (i := 1128) (by decide +kernel)⟩
theorem lw_p49 : lw_okq (⟨"FavoursGoOffModel", "look", "()V"⟩, 24) := ⟨⟨by decide +kernel, by decide +kernel⟩, List.mem_of_getElem? (i := 872) (by decide +kernel), List.mem_of_getElem? (i := 1131) (by decide +kernel), List.mem_of_getElem? (i := 1132) (by decide +kernel)⟩
theorem lw_p50 : lw_okq (⟨"FavoursGoOffModel", "toDo", "(II)I"⟩, 24) := ⟨⟨by decide +kernel, by decide +kernel⟩, List.mem_of_getElem? (i := 872) (by decide +kernel), List.mem_of_getElem? (i := 1143) (by decide +kernel), List.mem_of_getElem? (i := 1144) (by decide +kernel)⟩
theorem lw_p51 : lw_okq (⟨"FavoursGoOffModel", "doneFor", "(III)I"⟩, 24) := ⟨⟨by decide +kernel, by decide +kernel⟩, List.mem_of_getElem? (i := 872) (by decide +kernel), List.mem_of_getElem? (i := 1147) (by decide +kernel), List.mem_of_getElem? (i := 1148) (by decide +kernel)⟩
theorem lw_p52 : lw_okq (⟨"FavoursGoOffModel", "ratesBy", "(I)I"⟩, 24) := ⟨⟨by decide +kernel, by decide +kernel⟩, List.mem_of_getElem? (i := 872) (by decide +kernel), List.mem_of_getElem? (i := 1155) (by decide +kernel), List.mem_of_getElem? (i := 1156) (by decide +kernel)⟩
theorem lw_p53 : lw_okq (⟨"FavoursGoOffModel", "tells", "(JJ)I"⟩, 24) := ⟨⟨by decide +kernel, by decide +kernel⟩, List.mem_of_getElem? (i := 872) (by decide +kernel), List.mem_of_getElem? (i := 1192) (by decide +kernel), List.mem_of_getElem? (i := 1193) (by decide +kernel)⟩
theorem lw_p54 : lw_okq (⟨"FavoursGoOffModel", "lookAt", "(I)V"⟩, 24) := ⟨⟨by decide +kernel, by decide +kernel⟩, List.mem_of_getElem? (i := 872) (by decide +kernel), List.mem_of_getElem? (i := 1210) (by decide +kernel), List.mem_of_getElem? (i := 1211) (by decide +kernel)⟩
theorem lw_p55 : lw_okq (⟨"FavoursGoOffModel", "readsItem", "(Z)Z"⟩, 24) := ⟨⟨by decide +kernel, by decide +kernel⟩, List.mem_of_getElem? (i := 872) (by decide +kernel), List.mem_of_getElem? (i := 1224) (by decide +kernel), List.mem_of_getElem? (i := 1225) (by decide +kernel)⟩
theorem lw_p56 : lw_okq (⟨"FavoursGoOffModel", "isWord", "(IIIIII)Z"⟩, 24) := ⟨⟨by decide +kernel, by decide +kernel⟩, List.mem_of_getElem? (i := 872) (by decide +kernel), List.mem_of_getElem? (i := 1228) (by decide +kernel), List.mem_of_getElem? (i := 1229) (by decide +kernel)⟩
theorem lw_p57 : lw_okq (⟨"FavoursGoOffModel", "goOn", "()V"⟩, 24) := ⟨⟨by decide +kernel, by decide +kernel⟩, List.mem_of_getElem? (i := 872) (by decide +kernel), List.mem_of_getElem? (i := 1232) (by decide +kernel), List.mem_of_getElem? (i := 1233) (by decide +kernel)⟩
theorem lw_p58 : lw_okq (⟨"FavoursGoOffModel", "takes", "(III)Z"⟩, 24) := ⟨⟨by decide +kernel, by decide +kernel⟩, List.mem_of_getElem? (i := 872) (by decide +kernel), List.mem_of_getElem? (i := 1236) (by decide +kernel), List.mem_of_getElem? (i := 1237) (by decide +kernel)⟩
theorem lw_p59 : lw_okq (⟨"FavoursGoOffModel", "readsStrong", "()Z"⟩, 24) := ⟨⟨by decide +kernel, by decide +kernel⟩, List.mem_of_getElem? (i := 872) (by decide +kernel), List.mem_of_getElem? (i := 1240) (by decide +kernel), List.mem_of_getElem? (i := 1241) (by decide +kernel)⟩
theorem lw_p60 : lw_okq (⟨"FavoursGoOffModel", "readsFavour", "()Z"⟩, 24) := ⟨⟨by decide +kernel, by decide +kernel⟩, List.mem_of_getElem? (i := 872) (by decide +kernel), List.mem_of_getElem? (i := 1244) (by decide +kernel), List.mem_of_getElem? (i := 1245) (by decide +kernel)⟩
theorem lw_p61 : lw_okq (⟨"FavoursGoOffModel", "readsNeed", "()Z"⟩, 24) := ⟨⟨by decide +kernel, by decide +kernel⟩, List.mem_of_getElem? (i := 872) (by decide +kernel), List.mem_of_getElem? (i := 1248) (by decide +kernel), List.mem_of_getElem? (i := 1249) (by decide +kernel)⟩
theorem lw_p62 : lw_okq (⟨"FavoursGoOffModel", "counted", "(I)I"⟩, 24) := ⟨⟨by decide +kernel, by decide +kernel⟩, List.mem_of_getElem? (i := 872) (by decide +kernel), List.mem_of_getElem? (i := 1274) (by decide +kernel), List.mem_of_getElem? (i := 1275) (by decide +kernel)⟩
theorem lw_p63 : lw_okq (⟨"FavoursGoOffModel", "sums", "(JII)J"⟩, 24) := ⟨⟨by decide +kernel, by decide +kernel⟩, List.mem_of_getElem? (i := 872) (by decide +kernel), List.mem_of_getElem? (i := 1284) (by decide +kernel), List.mem_of_getElem? (i := 1285) (by decide +kernel)⟩
def lw_privs_4 : List (MethodName × Nat) := [(⟨"FavoursGoOffModel", "need0", "(II)I"⟩, 24), (⟨"FavoursGoOffModel", "look", "()V"⟩, 24), (⟨"FavoursGoOffModel", "toDo", "(II)I"⟩, 24), (⟨"FavoursGoOffModel", "doneFor", "(III)I"⟩, 24), (⟨"FavoursGoOffModel", "ratesBy", "(I)I"⟩, 24), (⟨"FavoursGoOffModel", "tells", "(JJ)I"⟩, 24), (⟨"FavoursGoOffModel", "lookAt", "(I)V"⟩, 24), (⟨"FavoursGoOffModel", "readsItem", "(Z)Z"⟩, 24), (⟨"FavoursGoOffModel", "isWord", "(IIIIII)Z"⟩, 24), (⟨"FavoursGoOffModel", "goOn", "()V"⟩, 24), (⟨"FavoursGoOffModel", "takes", "(III)Z"⟩, 24), (⟨"FavoursGoOffModel", "readsStrong", "()Z"⟩, 24), (⟨"FavoursGoOffModel", "readsFavour", "()Z"⟩, 24), (⟨"FavoursGoOffModel", "readsNeed", "()Z"⟩, 24), (⟨"FavoursGoOffModel", "counted", "(I)I"⟩, 24), (⟨"FavoursGoOffModel", "sums", "(JII)J"⟩, 24)]
theorem lw_r4 : ∀ q ∈ lw_privs_4, lw_okq q := List.forall_mem_cons.mpr ⟨lw_p48, List.forall_mem_cons.mpr ⟨lw_p49, List.forall_mem_cons.mpr ⟨lw_p50, List.forall_mem_cons.mpr ⟨lw_p51, List.forall_mem_cons.mpr ⟨lw_p52, List.forall_mem_cons.mpr ⟨lw_p53, List.forall_mem_cons.mpr ⟨lw_p54, List.forall_mem_cons.mpr ⟨lw_p55, List.forall_mem_cons.mpr ⟨lw_p56, List.forall_mem_cons.mpr ⟨lw_p57, List.forall_mem_cons.mpr ⟨lw_p58, List.forall_mem_cons.mpr ⟨lw_p59, List.forall_mem_cons.mpr ⟨lw_p60, List.forall_mem_cons.mpr ⟨lw_p61, List.forall_mem_cons.mpr ⟨lw_p62, List.forall_mem_cons.mpr ⟨lw_p63, fun _ h => absurd h List.not_mem_nil⟩⟩⟩⟩⟩⟩⟩⟩⟩⟩⟩⟩⟩⟩⟩⟩
def lw_privs : List (MethodName × Nat) := lw_privs_1 ++ (lw_privs_2 ++ (lw_privs_3 ++ (lw_privs_4)))
def lw_tbl : List Cond := k2_sels lw_privs ++ tables_1
theorem lw_privs_ok : ∀ q ∈ lw_privs, lw_okq q := by
  show ∀ q ∈ lw_privs_1 ++ (lw_privs_2 ++ (lw_privs_3 ++ (lw_privs_4))), lw_okq q
  exact List.forall_mem_append.mpr ⟨lw_r1, List.forall_mem_append.mpr ⟨lw_r2, List.forall_mem_append.mpr ⟨lw_r3, lw_r4⟩⟩⟩

def RX0 : String := "FavoursGoOff$Circle"
def TX0 : u_T := fun k => match k with
  | 0 => ("FavoursGoOff$Circle", "members", "[I", true)
  | _ => ("FavoursGoOff$Circle", "length", "I", false)
def tyX0 : Nat → FieldType := fun k => match k with
  | 0 => .array .int
  | _ => .int
abbrev wsX00 : List Cond := u_ws RX0 TX0 2
theorem nmX0 : ∀ a, a < 2 → ∀ b, b < 2 → a ≠ b → (TX0 a).2.1 ≠ (TX0 b).2.1 := by decide +kernel
theorem tyX0_ok : ∀ k, k < 2 → parseFieldDescriptor (TX0 k).2.2.1 = some (tyX0 k) := by decide +kernel
abbrev cX0_init : ByteArray := prog_2_method_1_code
def yX0_init : MethodName := ⟨RX0, "<init>", "()V"⟩
abbrev cX0_find : ByteArray := prog_2_method_2_code
def yX0_find : MethodName := ⟨RX0, "find", "(LFavoursGoOff$Debts;)V"⟩
abbrev cX0_member : ByteArray := prog_2_method_3_code
def yX0_member : MethodName := ⟨RX0, "member", "(I)I"⟩
abbrev cX0_closes : ByteArray := prog_2_method_4_code
def yX0_closes : MethodName := ⟨RX0, "closes", "(LFavoursGoOff$Circle;LFavoursGoOff$Debts;II)Z"⟩
abbrev cX0_holds : ByteArray := prog_2_method_5_code
def yX0_holds : MethodName := ⟨RX0, "holds", "(II)Z"⟩
def RX1 : String := "FavoursGoOff$Debts"
def TX1 : u_T := fun k => match k with
  | 0 => ("FavoursGoOff$Debts", "sums", "LFavoursGoOff$Table;", true)
  | 1 => ("FavoursGoOff$Debts", "nets", "[I", true)
  | 2 => ("FavoursGoOff$Debts", "groups", "[I", true)
  | 3 => ("FavoursGoOff$Debts", "people", "I", false)
  | 4 => ("FavoursGoOff$Debts", "fallen", "I", false)
  | _ => ("FavoursGoOff$Debts", "rounds", "I", false)
def tyX1 : Nat → FieldType := fun k => match k with
  | 0 => .object "FavoursGoOff$Table"
  | 1 => .array .int
  | 2 => .array .int
  | 3 => .int
  | 4 => .int
  | _ => .int
abbrev wsX10 : List Cond := u_ws RX1 TX1 6
theorem nmX1 : ∀ a, a < 6 → ∀ b, b < 6 → a ≠ b → (TX1 a).2.1 ≠ (TX1 b).2.1 := by decide +kernel
theorem tyX1_ok : ∀ k, k < 6 → parseFieldDescriptor (TX1 k).2.2.1 = some (tyX1 k) := by decide +kernel
abbrev cX1_init : ByteArray := prog_3_method_1_code
def yX1_init : MethodName := ⟨RX1, "<init>", "()V"⟩
abbrev cX1_addUp : ByteArray := prog_3_method_2_code
def yX1_addUp : MethodName := ⟨RX1, "addUp", "(LFavoursGoOff$Street;I)V"⟩
abbrev cX1_between : ByteArray := prog_3_method_3_code
def yX1_between : MethodName := ⟨RX1, "between", "(II)I"⟩
abbrev cX1_balance : ByteArray := prog_3_method_4_code
def yX1_balance : MethodName := ⟨RX1, "balance", "(I)I"⟩
abbrev cX1_fewestPayments : ByteArray := prog_3_method_5_code
def yX1_fewestPayments : MethodName := ⟨RX1, "fewestPayments", "()I"⟩
abbrev cX1_mostGroups : ByteArray := prog_3_method_6_code
def yX1_mostGroups : MethodName := ⟨RX1, "mostGroups", "(I)I"⟩
abbrev cX1_callAllIn : ByteArray := prog_3_method_7_code
def yX1_callAllIn : MethodName := ⟨RX1, "callAllIn", "(LFavoursGoOff$Table;)V"⟩
abbrev cX1_dueFrom : ByteArray := prog_3_method_8_code
def yX1_dueFrom : MethodName := ⟨RX1, "dueFrom", "(I)I"⟩
abbrev cX1_doneFor : ByteArray := prog_3_method_9_code
def yX1_doneFor : MethodName := ⟨RX1, "doneFor", "(II)I"⟩
def RX2 : String := "FavoursGoOff$Fraction"
def TX2 : u_T := fun k => match k with
  | 0 => ("FavoursGoOff$Fraction", "above", "J", false)
  | _ => ("FavoursGoOff$Fraction", "below", "J", false)
def tyX2 : Nat → FieldType := fun k => match k with
  | 0 => .long
  | _ => .long
abbrev wsX20 : List Cond := u_ws RX2 TX2 2
theorem nmX2 : ∀ a, a < 2 → ∀ b, b < 2 → a ≠ b → (TX2 a).2.1 ≠ (TX2 b).2.1 := by decide +kernel
theorem tyX2_ok : ∀ k, k < 2 → parseFieldDescriptor (TX2 k).2.2.1 = some (tyX2 k) := by decide +kernel
abbrev cX2_init : ByteArray := prog_4_method_1_code
def yX2_init : MethodName := ⟨RX2, "<init>", "()V"⟩
abbrev cX2_become : ByteArray := prog_4_method_2_code
def yX2_become : MethodName := ⟨RX2, "become", "(JJ)V"⟩
abbrev cX2_commonDivisor : ByteArray := prog_4_method_3_code
def yX2_commonDivisor : MethodName := ⟨RX2, "commonDivisor", "(JJ)J"⟩
def RX3 : String := "FavoursGoOff$History"
def TX3 : u_T := fun k => match k with
  | 0 => ("FavoursGoOff$History", "now", "LFavoursGoOff$Street;", true)
  | 1 => ("FavoursGoOff$History", "last", "LFavoursGoOff$Street;", true)
  | 2 => ("FavoursGoOff$History", "before", "LFavoursGoOff$Street;", true)
  | 3 => ("FavoursGoOff$History", "nights", "I", false)
  | _ => ("FavoursGoOff$History", "isKept", "Z", false)
def tyX3 : Nat → FieldType := fun k => match k with
  | 0 => .object "FavoursGoOff$Street"
  | 1 => .object "FavoursGoOff$Street"
  | 2 => .object "FavoursGoOff$Street"
  | 3 => .int
  | _ => .boolean
abbrev wsX30 : List Cond := u_ws RX3 TX3 5
theorem nmX3 : ∀ a, a < 5 → ∀ b, b < 5 → a ≠ b → (TX3 a).2.1 ≠ (TX3 b).2.1 := by decide +kernel
theorem tyX3_ok : ∀ k, k < 5 → parseFieldDescriptor (TX3 k).2.2.1 = some (tyX3 k) := by decide +kernel
abbrev cX3_init : ByteArray := prog_5_method_1_code
def yX3_init : MethodName := ⟨RX3, "<init>", "()V"⟩
abbrev cX3_keepNight : ByteArray := prog_5_method_2_code
def yX3_keepNight : MethodName := ⟨RX3, "keepNight", "()V"⟩
abbrev cX3_goBack : ByteArray := prog_5_method_3_code
def yX3_goBack : MethodName := ⟨RX3, "goBack", "()V"⟩
abbrev cX3_copyFrom : ByteArray := prog_5_method_4_code
def yX3_copyFrom : MethodName := ⟨RX3, "copyFrom", "(LFavoursGoOff$History;)V"⟩
def RX4 : String := "FavoursGoOff$Plan"
def TX4 : u_T := fun k => match k with
  | 0 => ("FavoursGoOff$Plan", "stale", "Z", false)
  | 1 => ("FavoursGoOff$Plan", "mostMet", "I", false)
  | 2 => ("FavoursGoOff$Plan", "leastSpent", "I", false)
  | 3 => ("FavoursGoOff$Plan", "needs", "I", false)
  | 4 => ("FavoursGoOff$Plan", "favours", "I", false)
  | 5 => ("FavoursGoOff$Plan", "values", "LFavoursGoOff$Table;", true)
  | 6 => ("FavoursGoOff$Plan", "rooms", "LFavoursGoOff$Table;", true)
  | 7 => ("FavoursGoOff$Plan", "dayRows", "[I", true)
  | 8 => ("FavoursGoOff$Plan", "doers", "[I", true)
  | 9 => ("FavoursGoOff$Plan", "hopes", "[I", true)
  | 10 => ("FavoursGoOff$Plan", "costs", "[I", true)
  | 11 => ("FavoursGoOff$Plan", "tried", "[I", true)
  | _ => ("FavoursGoOff$Plan", "best", "[I", true)
def tyX4 : Nat → FieldType := fun k => match k with
  | 0 => .boolean
  | 1 => .int
  | 2 => .int
  | 3 => .int
  | 4 => .int
  | 5 => .object "FavoursGoOff$Table"
  | 6 => .object "FavoursGoOff$Table"
  | 7 => .array .int
  | 8 => .array .int
  | 9 => .array .int
  | 10 => .array .int
  | 11 => .array .int
  | _ => .array .int
abbrev wsX40 : List Cond := u_ws RX4 TX4 13
theorem nmX4 : ∀ a, a < 13 → ∀ b, b < 13 → a ≠ b → (TX4 a).2.1 ≠ (TX4 b).2.1 := by decide +kernel
theorem tyX4_ok : ∀ k, k < 13 → parseFieldDescriptor (TX4 k).2.2.1 = some (tyX4 k) := by decide +kernel
abbrev cX4_init : ByteArray := prog_6_method_1_code
def yX4_init : MethodName := ⟨RX4, "<init>", "()V"⟩
abbrev cX4_make : ByteArray := prog_6_method_2_code
def yX4_make : MethodName := ⟨RX4, "make", "(LFavoursGoOff$Street;)V"⟩
abbrev cX4_favourOf : ByteArray := prog_6_method_3_code
def yX4_favourOf : MethodName := ⟨RX4, "favourOf", "(I)I"⟩
abbrev cX4_layOut : ByteArray := prog_6_method_4_code
def yX4_layOut : MethodName := ⟨RX4, "layOut", "(LFavoursGoOff$Street;I)V"⟩
abbrev cX4_lookAhead : ByteArray := prog_6_method_5_code
def yX4_lookAhead : MethodName := ⟨RX4, "lookAhead", "()V"⟩
abbrev cX4_search : ByteArray := prog_6_method_6_code
def yX4_search : MethodName := ⟨RX4, "search", "(LFavoursGoOff$Plan;IIII)V"⟩
abbrev cX4_isNoBetter : ByteArray := prog_6_method_7_code
def yX4_isNoBetter : MethodName := ⟨RX4, "isNoBetter", "(II)Z"⟩
abbrev cX4_keepIfBetter : ByteArray := prog_6_method_8_code
def yX4_keepIfBetter : MethodName := ⟨RX4, "keepIfBetter", "(II)V"⟩
def RX5 : String := "FavoursGoOff$Reader"
def TX5 : u_T := fun k => match k with
  | 0 => ("FavoursGoOff$Reader", "text", "LFavoursGoOff$Text;", true)
  | 1 => ("FavoursGoOff$Reader", "draft", "LFavoursGoOff$Street;", true)
  | 2 => ("FavoursGoOff$Reader", "fault", "I", false)
  | 3 => ("FavoursGoOff$Reader", "token", "I", false)
  | 4 => ("FavoursGoOff$Reader", "start", "I", false)
  | 5 => ("FavoursGoOff$Reader", "next", "I", false)
  | 6 => ("FavoursGoOff$Reader", "number", "I", false)
  | _ => ("FavoursGoOff$Reader", "lastPerson", "I", false)
def tyX5 : Nat → FieldType := fun k => match k with
  | 0 => .object "FavoursGoOff$Text"
  | 1 => .object "FavoursGoOff$Street"
  | 2 => .int
  | 3 => .int
  | 4 => .int
  | 5 => .int
  | 6 => .int
  | _ => .int
abbrev wsX50 : List Cond := u_ws RX5 TX5 8
theorem nmX5 : ∀ a, a < 8 → ∀ b, b < 8 → a ≠ b → (TX5 a).2.1 ≠ (TX5 b).2.1 := by decide +kernel
theorem tyX5_ok : ∀ k, k < 8 → parseFieldDescriptor (TX5 k).2.2.1 = some (tyX5 k) := by decide +kernel
abbrev cX5_init : ByteArray := prog_7_method_1_code
def yX5_init : MethodName := ⟨RX5, "<init>", "()V"⟩
abbrev cX5_readStreet : ByteArray := prog_7_method_2_code
def yX5_readStreet : MethodName := ⟨RX5, "readStreet", "()I"⟩
abbrev cX5_readPeople : ByteArray := prog_7_method_3_code
def yX5_readPeople : MethodName := ⟨RX5, "readPeople", "()V"⟩
abbrev cX5_readItem : ByteArray := prog_7_method_4_code
def yX5_readItem : MethodName := ⟨RX5, "readItem", "()V"⟩
abbrev cX5_readStrong : ByteArray := prog_7_method_5_code
def yX5_readStrong : MethodName := ⟨RX5, "readStrong", "()V"⟩
abbrev cX5_readFavour : ByteArray := prog_7_method_6_code
def yX5_readFavour : MethodName := ⟨RX5, "readFavour", "()V"⟩
abbrev cX5_readNeed : ByteArray := prog_7_method_7_code
def yX5_readNeed : MethodName := ⟨RX5, "readNeed", "()V"⟩
abbrev cX5_refuse : ByteArray := prog_7_method_8_code
def yX5_refuse : MethodName := ⟨RX5, "refuse", "(I)V"⟩
abbrev cX5_takeNumber : ByteArray := prog_7_method_9_code
def yX5_takeNumber : MethodName := ⟨RX5, "takeNumber", "(II)I"⟩
abbrev cX5_takeStop : ByteArray := prog_7_method_10_code
def yX5_takeStop : MethodName := ⟨RX5, "takeStop", "()V"⟩
abbrev cX5_fail : ByteArray := prog_7_method_11_code
def yX5_fail : MethodName := ⟨RX5, "fail", "()V"⟩
abbrev cX5_step : ByteArray := prog_7_method_12_code
def yX5_step : MethodName := ⟨RX5, "step", "()V"⟩
abbrev cX5_endOfRun : ByteArray := prog_7_method_13_code
def yX5_endOfRun : MethodName := ⟨RX5, "endOfRun", "(II)I"⟩
abbrev cX5_takeFigures : ByteArray := prog_7_method_14_code
def yX5_takeFigures : MethodName := ⟨RX5, "takeFigures", "()V"⟩
abbrev cX5_isWord : ByteArray := prog_7_method_15_code
def yX5_isWord : MethodName := ⟨RX5, "isWord", "(Ljava/lang/String;)Z"⟩
def RX6 : String := "FavoursGoOff$Street"
def TX6 : u_T := fun k => match k with
  | 0 => ("FavoursGoOff$Street", "people", "LFavoursGoOff$Table;", true)
  | 1 => ("FavoursGoOff$Street", "favours", "LFavoursGoOff$Table;", true)
  | 2 => ("FavoursGoOff$Street", "needs", "LFavoursGoOff$Table;", true)
  | 3 => ("FavoursGoOff$Street", "passes", "LFavoursGoOff$Table;", true)
  | 4 => ("FavoursGoOff$Street", "rates", "LFavoursGoOff$Table;", true)
  | _ => ("FavoursGoOff$Street", "day", "I", false)
def tyX6 : Nat → FieldType := fun k => match k with
  | 0 => .object "FavoursGoOff$Table"
  | 1 => .object "FavoursGoOff$Table"
  | 2 => .object "FavoursGoOff$Table"
  | 3 => .object "FavoursGoOff$Table"
  | 4 => .object "FavoursGoOff$Table"
  | _ => .int
abbrev wsX60 : List Cond := u_ws RX6 TX6 6
theorem nmX6 : ∀ a, a < 6 → ∀ b, b < 6 → a ≠ b → (TX6 a).2.1 ≠ (TX6 b).2.1 := by decide +kernel
theorem tyX6_ok : ∀ k, k < 6 → parseFieldDescriptor (TX6 k).2.2.1 = some (tyX6 k) := by decide +kernel
abbrev cX6_init : ByteArray := prog_8_method_1_code
def yX6_init : MethodName := ⟨RX6, "<init>", "()V"⟩
abbrev cX6_open : ByteArray := prog_8_method_2_code
def yX6_open : MethodName := ⟨RX6, "open", "(I)V"⟩
abbrev cX6_copyFrom : ByteArray := prog_8_method_3_code
def yX6_copyFrom : MethodName := ⟨RX6, "copyFrom", "(LFavoursGoOff$Street;)V"⟩
abbrev cX6_takeAllButRates : ByteArray := prog_8_method_4_code
def yX6_takeAllButRates : MethodName := ⟨RX6, "takeAllButRates", "(LFavoursGoOff$Street;)V"⟩
abbrev cX6_addFavour : ByteArray := prog_8_method_5_code
def yX6_addFavour : MethodName := ⟨RX6, "addFavour", "(IIIIII)I"⟩
abbrev cX6_addNeed : ByteArray := prog_8_method_6_code
def yX6_addNeed : MethodName := ⟨RX6, "addNeed", "(IIII)I"⟩
abbrev cX6_addPass : ByteArray := prog_8_method_7_code
def yX6_addPass : MethodName := ⟨RX6, "addPass", "(III)I"⟩
abbrev cX6_wake : ByteArray := prog_8_method_8_code
def yX6_wake : MethodName := ⟨RX6, "wake", "()V"⟩
abbrev cX6_valueNow : ByteArray := prog_8_method_9_code
def yX6_valueNow : MethodName := ⟨RX6, "valueNow", "(I)I"⟩
abbrev cX6_valueOn : ByteArray := prog_8_method_10_code
def yX6_valueOn : MethodName := ⟨RX6, "valueOn", "(II)I"⟩
abbrev cX6_areAlike : ByteArray := prog_8_method_11_code
def yX6_areAlike : MethodName := ⟨RX6, "areAlike", "(II)Z"⟩
abbrev cX6_merge : ByteArray := prog_8_method_12_code
def yX6_merge : MethodName := ⟨RX6, "merge", "(II)I"⟩
abbrev cX6_cheapest : ByteArray := prog_8_method_13_code
def yX6_cheapest : MethodName := ⟨RX6, "cheapest", "(II)I"⟩
abbrev cX6_holderAhead : ByteArray := prog_8_method_14_code
def yX6_holderAhead : MethodName := ⟨RX6, "holderAhead", "(I)I"⟩
abbrev cX6_rateNow : ByteArray := prog_8_method_15_code
def yX6_rateNow : MethodName := ⟨RX6, "rateNow", "(I)I"⟩
abbrev cX6_setRate : ByteArray := prog_8_method_16_code
def yX6_setRate : MethodName := ⟨RX6, "setRate", "(II)V"⟩
abbrev cX6_drift : ByteArray := prog_8_method_17_code
def yX6_drift : MethodName := ⟨RX6, "drift", "(I)I"⟩
def RX7 : String := "FavoursGoOff$Table"
def TX7 : u_T := fun k => match k with
  | 0 => ("FavoursGoOff$Table", "width", "I", true)
  | 1 => ("FavoursGoOff$Table", "cells", "[I", true)
  | _ => ("FavoursGoOff$Table", "rows", "I", false)
def tyX7 : Nat → FieldType := fun k => match k with
  | 0 => .int
  | 1 => .array .int
  | _ => .int
abbrev wsX70 : List Cond := u_ws RX7 TX7 3
theorem nmX7 : ∀ a, a < 3 → ∀ b, b < 3 → a ≠ b → (TX7 a).2.1 ≠ (TX7 b).2.1 := by decide +kernel
theorem tyX7_ok : ∀ k, k < 3 → parseFieldDescriptor (TX7 k).2.2.1 = some (tyX7 k) := by decide +kernel
abbrev cX7_init : ByteArray := prog_9_method_1_code
def yX7_init : MethodName := ⟨RX7, "<init>", "(II)V"⟩
abbrev cX7_has : ByteArray := prog_9_method_2_code
def yX7_has : MethodName := ⟨RX7, "has", "(I)Z"⟩
abbrev cX7_isFull : ByteArray := prog_9_method_3_code
def yX7_isFull : MethodName := ⟨RX7, "isFull", "()Z"⟩
abbrev cX7_at : ByteArray := prog_9_method_4_code
def yX7_at : MethodName := ⟨RX7, "at", "(II)I"⟩
abbrev cX7_put : ByteArray := prog_9_method_5_code
def yX7_put : MethodName := ⟨RX7, "put", "(III)V"⟩
abbrev cX7_more : ByteArray := prog_9_method_6_code
def yX7_more : MethodName := ⟨RX7, "more", "(III)V"⟩
abbrev cX7_fillRow : ByteArray := prog_9_method_7_code
def yX7_fillRow : MethodName := ⟨RX7, "fillRow", "(II)V"⟩
abbrev cX7_add : ByteArray := prog_9_method_8_code
def yX7_add : MethodName := ⟨RX7, "add", "()I"⟩
abbrev cX7_empty : ByteArray := prog_9_method_9_code
def yX7_empty : MethodName := ⟨RX7, "empty", "()I"⟩
abbrev cX7_copyFrom : ByteArray := prog_9_method_10_code
def yX7_copyFrom : MethodName := ⟨RX7, "copyFrom", "(LFavoursGoOff$Table;)V"⟩
abbrev cX7_mixedInto : ByteArray := prog_9_method_11_code
def yX7_mixedInto : MethodName := ⟨RX7, "mixedInto", "(J)J"⟩
abbrev cX7_placeOf : ByteArray := prog_9_method_12_code
def yX7_placeOf : MethodName := ⟨RX7, "placeOf", "(II)I"⟩
def RX8 : String := "FavoursGoOff$Text"
def TX8 : u_T := fun k => match k with
  | 0 => ("FavoursGoOff$Text", "bytes", "[I", true)
  | _ => ("FavoursGoOff$Text", "length", "I", false)
def tyX8 : Nat → FieldType := fun k => match k with
  | 0 => .array .int
  | _ => .int
abbrev wsX80 : List Cond := u_ws RX8 TX8 2
theorem nmX8 : ∀ a, a < 2 → ∀ b, b < 2 → a ≠ b → (TX8 a).2.1 ≠ (TX8 b).2.1 := by decide +kernel
theorem tyX8_ok : ∀ k, k < 2 → parseFieldDescriptor (TX8 k).2.2.1 = some (tyX8 k) := by decide +kernel
abbrev cX8_init : ByteArray := prog_10_method_1_code
def yX8_init : MethodName := ⟨RX8, "<init>", "()V"⟩
abbrev cX8_add : ByteArray := prog_10_method_2_code
def yX8_add : MethodName := ⟨RX8, "add", "(I)V"⟩
abbrev cX8_at : ByteArray := prog_10_method_3_code
def yX8_at : MethodName := ⟨RX8, "at", "(I)I"⟩
def RX9 : String := "FavoursGoOff"
def TX9 : u_T := fun k => match k with
  | 0 => ("FavoursGoOff", "life", "LFavoursGoOff$History;", true)
  | 1 => ("FavoursGoOff", "imageZero", "LFavoursGoOff$History;", true)
  | 2 => ("FavoursGoOff", "imageOne", "LFavoursGoOff$History;", true)
  | 3 => ("FavoursGoOff", "street", "LFavoursGoOff$Street;", true)
  | 4 => ("FavoursGoOff", "reader", "LFavoursGoOff$Reader;", true)
  | 5 => ("FavoursGoOff", "text", "LFavoursGoOff$Text;", true)
  | 6 => ("FavoursGoOff", "debts", "LFavoursGoOff$Debts;", true)
  | 7 => ("FavoursGoOff", "circle", "LFavoursGoOff$Circle;", true)
  | 8 => ("FavoursGoOff", "plan", "LFavoursGoOff$Plan;", true)
  | 9 => ("FavoursGoOff", "fraction", "LFavoursGoOff$Fraction;", true)
  | 10 => ("FavoursGoOff", "refusedBad", "I", false)
  | 11 => ("FavoursGoOff", "refusedNo", "I", false)
  | _ => ("FavoursGoOff", "refusedFull", "I", false)
def tyX9 : Nat → FieldType := fun k => match k with
  | 0 => .object "FavoursGoOff$History"
  | 1 => .object "FavoursGoOff$History"
  | 2 => .object "FavoursGoOff$History"
  | 3 => .object "FavoursGoOff$Street"
  | 4 => .object "FavoursGoOff$Reader"
  | 5 => .object "FavoursGoOff$Text"
  | 6 => .object "FavoursGoOff$Debts"
  | 7 => .object "FavoursGoOff$Circle"
  | 8 => .object "FavoursGoOff$Plan"
  | 9 => .object "FavoursGoOff$Fraction"
  | 10 => .int
  | 11 => .int
  | _ => .int
abbrev wsX90 : List Cond := u_ws RX9 TX9 13
theorem nmX9 : ∀ a, a < 13 → ∀ b, b < 13 → a ≠ b → (TX9 a).2.1 ≠ (TX9 b).2.1 := by decide +kernel
theorem tyX9_ok : ∀ k, k < 13 → parseFieldDescriptor (TX9 k).2.2.1 = some (tyX9 k) := by decide +kernel
abbrev cX9_init : ByteArray := prog_1_method_1_code
def yX9_init : MethodName := ⟨RX9, "<init>", "()V"⟩
abbrev cX9_people : ByteArray := prog_1_method_2_code
def yX9_people : MethodName := ⟨RX9, "people", "(I)I"⟩
abbrev cX9_strong : ByteArray := prog_1_method_3_code
def yX9_strong : MethodName := ⟨RX9, "strong", "(II)I"⟩
abbrev cX9_favour : ByteArray := prog_1_method_4_code
def yX9_favour : MethodName := ⟨RX9, "favour", "(IIIIII)I"⟩
abbrev cX9_need : ByteArray := prog_1_method_5_code
def yX9_need : MethodName := ⟨RX9, "need", "(IIII)I"⟩
abbrev cX9_contented : ByteArray := prog_1_method_6_code
def yX9_contented : MethodName := ⟨RX9, "contented", "()I"⟩
abbrev cX9_type : ByteArray := prog_1_method_7_code
def yX9_type : MethodName := ⟨RX9, "type", "(JI)I"⟩
abbrev cX9_clear : ByteArray := prog_1_method_8_code
def yX9_clear : MethodName := ⟨RX9, "clear", "()I"⟩
abbrev cX9_read : ByteArray := prog_1_method_9_code
def yX9_read : MethodName := ⟨RX9, "read", "()I"⟩
abbrev cX9_value : ByteArray := prog_1_method_10_code
def yX9_value : MethodName := ⟨RX9, "value", "(II)I"⟩
abbrev cX9_of : ByteArray := prog_1_method_11_code
def yX9_of : MethodName := ⟨RX9, "of", "(I)I"⟩
abbrev cX9_pass : ByteArray := prog_1_method_12_code
def yX9_pass : MethodName := ⟨RX9, "pass", "(II)I"⟩
abbrev cX9_join : ByteArray := prog_1_method_13_code
def yX9_join : MethodName := ⟨RX9, "join", "(II)I"⟩
abbrev cX9_ask : ByteArray := prog_1_method_14_code
def yX9_ask : MethodName := ⟨RX9, "ask", "(I)I"⟩
abbrev cX9_night : ByteArray := prog_1_method_15_code
def yX9_night : MethodName := ⟨RX9, "night", "()I"⟩
abbrev cX9_undo : ByteArray := prog_1_method_16_code
def yX9_undo : MethodName := ⟨RX9, "undo", "()I"⟩
abbrev cX9_owes : ByteArray := prog_1_method_17_code
def yX9_owes : MethodName := ⟨RX9, "owes", "(II)I"⟩
abbrev cX9_ring : ByteArray := prog_1_method_18_code
def yX9_ring : MethodName := ⟨RX9, "ring", "(I)I"⟩
abbrev cX9_cancel : ByteArray := prog_1_method_19_code
def yX9_cancel : MethodName := ⟨RX9, "cancel", "()I"⟩
abbrev cX9_net : ByteArray := prog_1_method_20_code
def yX9_net : MethodName := ⟨RX9, "net", "(I)I"⟩
abbrev cX9_fewest : ByteArray := prog_1_method_21_code
def yX9_fewest : MethodName := ⟨RX9, "fewest", "()I"⟩
abbrev cX9_met : ByteArray := prog_1_method_22_code
def yX9_met : MethodName := ⟨RX9, "met", "(I)I"⟩
abbrev cX9_plan : ByteArray := prog_1_method_23_code
def yX9_plan : MethodName := ⟨RX9, "plan", "(I)I"⟩
abbrev cX9_fire : ByteArray := prog_1_method_24_code
def yX9_fire : MethodName := ⟨RX9, "fire", "(II)I"⟩
abbrev cX9_rate : ByteArray := prog_1_method_25_code
def yX9_rate : MethodName := ⟨RX9, "rate", "(II)I"⟩
abbrev cX9_set : ByteArray := prog_1_method_26_code
def yX9_set : MethodName := ⟨RX9, "set", "(II)I"⟩
abbrev cX9_settles : ByteArray := prog_1_method_27_code
def yX9_settles : MethodName := ⟨RX9, "settles", "()I"⟩
abbrev cX9_told : ByteArray := prog_1_method_28_code
def yX9_told : MethodName := ⟨RX9, "told", "(III)I"⟩
abbrev cX9_forged : ByteArray := prog_1_method_29_code
def yX9_forged : MethodName := ⟨RX9, "forged", "()I"⟩
abbrev cX9_forget : ByteArray := prog_1_method_30_code
def yX9_forget : MethodName := ⟨RX9, "forget", "()I"⟩
abbrev cX9_goesOff : ByteArray := prog_1_method_31_code
def yX9_goesOff : MethodName := ⟨RX9, "goesOff", "(I)I"⟩
abbrev cX9_kept : ByteArray := prog_1_method_32_code
def yX9_kept : MethodName := ⟨RX9, "kept", "(II)I"⟩
abbrev cX9_part : ByteArray := prog_1_method_33_code
def yX9_part : MethodName := ⟨RX9, "part", "(I)J"⟩
abbrev cX9_image : ByteArray := prog_1_method_34_code
def yX9_image : MethodName := ⟨RX9, "image", "(I)I"⟩
abbrev cX9_from : ByteArray := prog_1_method_35_code
def yX9_from : MethodName := ⟨RX9, "from", "(I)I"⟩
abbrev cX9_status : ByteArray := prog_1_method_36_code
def yX9_status : MethodName := ⟨RX9, "status", "(I)I"⟩
abbrev cX9_count : ByteArray := prog_1_method_37_code
def yX9_count : MethodName := ⟨RX9, "count", "(I)I"⟩
abbrev cX9_digest : ByteArray := prog_1_method_38_code
def yX9_digest : MethodName := ⟨RX9, "digest", "()J"⟩
abbrev cX9_howMany : ByteArray := prog_1_method_39_code
def yX9_howMany : MethodName := ⟨RX9, "howMany", "(I)I"⟩
abbrev cX9_imageAt : ByteArray := prog_1_method_40_code
def yX9_imageAt : MethodName := ⟨RX9, "imageAt", "(I)LFavoursGoOff$History;"⟩
abbrev cX9_findRing : ByteArray := prog_1_method_41_code
def yX9_findRing : MethodName := ⟨RX9, "findRing", "()V"⟩
abbrev cX9_bad : ByteArray := prog_1_method_42_code
def yX9_bad : MethodName := ⟨RX9, "bad", "(I)I"⟩
abbrev cX9_no : ByteArray := prog_1_method_43_code
def yX9_no : MethodName := ⟨RX9, "no", "(I)I"⟩
abbrev cX9_full : ByteArray := prog_1_method_44_code
def yX9_full : MethodName := ⟨RX9, "full", "()I"⟩
abbrev cX9_isDayToCome : ByteArray := prog_1_method_45_code
def yX9_isDayToCome : MethodName := ⟨RX9, "isDayToCome", "(I)Z"⟩
abbrev cX9_isDay : ByteArray := prog_1_method_46_code
def yX9_isDay : MethodName := ⟨RX9, "isDay", "(I)Z"⟩
abbrev cX9_isThing : ByteArray := prog_1_method_47_code
def yX9_isThing : MethodName := ⟨RX9, "isThing", "(I)Z"⟩
abbrev cX9_isWithin : ByteArray := prog_1_method_48_code
def yX9_isWithin : MethodName := ⟨RX9, "isWithin", "(III)Z"⟩
abbrev cX9_heldRate : ByteArray := prog_1_method_49_code
def yX9_heldRate : MethodName := ⟨RX9, "heldRate", "(I)I"⟩
abbrev cX9_lastChange : ByteArray := prog_1_method_50_code
def yX9_lastChange : MethodName := ⟨RX9, "lastChange", "(II)I"⟩
abbrev cX9_power : ByteArray := prog_1_method_51_code
def yX9_power : MethodName := ⟨RX9, "power", "(II)J"⟩
abbrev cX9_choices : ByteArray := prog_1_method_52_code
def yX9_choices : MethodName := ⟨RX9, "choices", "(II)J"⟩
def RX10 : String := "FavoursGoOffModel"
def TX10 : u_T := fun k => match k with
  | 0 => ("FavoursGoOffModel", "now", "[I", true)
  | 1 => ("FavoursGoOffModel", "stored", "[I", true)
  | 2 => ("FavoursGoOffModel", "isKept", "[Z", true)
  | 3 => ("FavoursGoOffModel", "refused", "[I", true)
  | 4 => ("FavoursGoOffModel", "above", "J", false)
  | 5 => ("FavoursGoOffModel", "below", "J", false)
  | 6 => ("FavoursGoOffModel", "row", "[I", true)
  | 7 => ("FavoursGoOffModel", "ringLong", "I", false)
  | 8 => ("FavoursGoOffModel", "netsOf", "[I", true)
  | 9 => ("FavoursGoOffModel", "mostSets", "[I", true)
  | 10 => ("FavoursGoOffModel", "choice", "[I", true)
  | 11 => ("FavoursGoOffModel", "bestChoice", "[I", true)
  | 12 => ("FavoursGoOffModel", "bestMet", "I", false)
  | 13 => ("FavoursGoOffModel", "bestValue", "I", false)
  | 14 => ("FavoursGoOffModel", "rates", "[I", true)
  | 15 => ("FavoursGoOffModel", "has", "[I", true)
  | 16 => ("FavoursGoOffModel", "bytes", "[I", true)
  | 17 => ("FavoursGoOffModel", "bytesLong", "I", false)
  | 18 => ("FavoursGoOffModel", "tokenAt", "I", false)
  | 19 => ("FavoursGoOffModel", "tokenLong", "I", false)
  | 20 => ("FavoursGoOffModel", "token", "I", false)
  | 21 => ("FavoursGoOffModel", "value", "I", false)
  | 22 => ("FavoursGoOffModel", "next", "[I", true)
  | _ => ("FavoursGoOffModel", "values", "[I", true)
def tyX10 : Nat → FieldType := fun k => match k with
  | 0 => .array .int
  | 1 => .array .int
  | 2 => .array .boolean
  | 3 => .array .int
  | 4 => .long
  | 5 => .long
  | 6 => .array .int
  | 7 => .int
  | 8 => .array .int
  | 9 => .array .int
  | 10 => .array .int
  | 11 => .array .int
  | 12 => .int
  | 13 => .int
  | 14 => .array .int
  | 15 => .array .int
  | 16 => .array .int
  | 17 => .int
  | 18 => .int
  | 19 => .int
  | 20 => .int
  | 21 => .int
  | 22 => .array .int
  | _ => .array .int
abbrev wsX100 : List Cond := u_ws RX10 TX10 24
theorem nmX10 : ∀ a, a < 24 → ∀ b, b < 24 → a ≠ b → (TX10 a).2.1 ≠ (TX10 b).2.1 := by decide +kernel
theorem tyX10_ok : ∀ k, k < 24 → parseFieldDescriptor (TX10 k).2.2.1 = some (tyX10 k) := by decide +kernel
abbrev cX10_init : ByteArray := prog_12_method_1_code
def yX10_init : MethodName := ⟨RX10, "<init>", "()V"⟩
abbrev cX10_in : ByteArray := prog_12_method_3_code
def yX10_in : MethodName := ⟨RX10, "in", "(JJJ)Z"⟩
abbrev cX10_bad : ByteArray := prog_12_method_4_code
def yX10_bad : MethodName := ⟨RX10, "bad", "(I)I"⟩
abbrev cX10_no : ByteArray := prog_12_method_5_code
def yX10_no : MethodName := ⟨RX10, "no", "(I)I"⟩
abbrev cX10_full : ByteArray := prog_12_method_6_code
def yX10_full : MethodName := ⟨RX10, "full", "()I"⟩
abbrev cX10_tells : ByteArray := prog_12_method_7_code
def yX10_tells : MethodName := ⟨RX10, "tells", "(JJ)I"⟩
abbrev cX10_begin : ByteArray := prog_12_method_8_code
def yX10_begin : MethodName := ⟨RX10, "begin", "([II)V"⟩
abbrev cX10_day : ByteArray := prog_12_method_9_code
def yX10_day : MethodName := ⟨RX10, "day", "()I"⟩
abbrev cX10_many : ByteArray := prog_12_method_10_code
def yX10_many : MethodName := ⟨RX10, "many", "()I"⟩
abbrev cX10_isOne : ByteArray := prog_12_method_11_code
def yX10_isOne : MethodName := ⟨RX10, "isOne", "(I)Z"⟩
abbrev cX10_isDay : ByteArray := prog_12_method_12_code
def yX10_isDay : MethodName := ⟨RX10, "isDay", "(I)Z"⟩
abbrev cX10_isThing : ByteArray := prog_12_method_13_code
def yX10_isThing : MethodName := ⟨RX10, "isThing", "(I)Z"⟩
abbrev cX10_isFavour : ByteArray := prog_12_method_14_code
def yX10_isFavour : MethodName := ⟨RX10, "isFavour", "(I)Z"⟩
abbrev cX10_told0 : ByteArray := prog_12_method_15_code
def yX10_told0 : MethodName := ⟨RX10, "told0", "(II)I"⟩
abbrev cX10_people : ByteArray := prog_12_method_16_code
def yX10_people : MethodName := ⟨RX10, "people", "(I)I"⟩
abbrev cX10_strong : ByteArray := prog_12_method_17_code
def yX10_strong : MethodName := ⟨RX10, "strong", "(II)I"⟩
abbrev cX10_layFavour : ByteArray := prog_12_method_18_code
def yX10_layFavour : MethodName := ⟨RX10, "layFavour", "([IIIIIIIII)V"⟩
abbrev cX10_favour : ByteArray := prog_12_method_19_code
def yX10_favour : MethodName := ⟨RX10, "favour", "(IIIIII)I"⟩
abbrev cX10_layNeed : ByteArray := prog_12_method_20_code
def yX10_layNeed : MethodName := ⟨RX10, "layNeed", "([IIIIII)V"⟩
abbrev cX10_need : ByteArray := prog_12_method_21_code
def yX10_need : MethodName := ⟨RX10, "need", "(IIII)I"⟩
abbrev cX10_contented : ByteArray := prog_12_method_22_code
def yX10_contented : MethodName := ⟨RX10, "contented", "()I"⟩
abbrev cX10_notBelow0 : ByteArray := prog_12_method_23_code
def yX10_notBelow0 : MethodName := ⟨RX10, "notBelow0", "(I)I"⟩
abbrev cX10_valueOf : ByteArray := prog_12_method_24_code
def yX10_valueOf : MethodName := ⟨RX10, "valueOf", "(II)I"⟩
abbrev cX10_valueNow : ByteArray := prog_12_method_25_code
def yX10_valueNow : MethodName := ⟨RX10, "valueNow", "(I)I"⟩
abbrev cX10_value : ByteArray := prog_12_method_26_code
def yX10_value : MethodName := ⟨RX10, "value", "(II)I"⟩
abbrev cX10_of : ByteArray := prog_12_method_27_code
def yX10_of : MethodName := ⟨RX10, "of", "(I)I"⟩
abbrev cX10_lose : ByteArray := prog_12_method_28_code
def yX10_lose : MethodName := ⟨RX10, "lose", "(I)V"⟩
abbrev cX10_pass : ByteArray := prog_12_method_29_code
def yX10_pass : MethodName := ⟨RX10, "pass", "(II)I"⟩
abbrev cX10_join : ByteArray := prog_12_method_30_code
def yX10_join : MethodName := ⟨RX10, "join", "(II)I"⟩
abbrev cX10_ask : ByteArray := prog_12_method_31_code
def yX10_ask : MethodName := ⟨RX10, "ask", "(I)I"⟩
abbrev cX10_night : ByteArray := prog_12_method_32_code
def yX10_night : MethodName := ⟨RX10, "night", "()I"⟩
abbrev cX10_undo : ByteArray := prog_12_method_33_code
def yX10_undo : MethodName := ⟨RX10, "undo", "()I"⟩
abbrev cX10_owesTo : ByteArray := prog_12_method_34_code
def yX10_owesTo : MethodName := ⟨RX10, "owesTo", "(II)I"⟩
abbrev cX10_owes : ByteArray := prog_12_method_35_code
def yX10_owes : MethodName := ⟨RX10, "owes", "(II)I"⟩
abbrev cX10_layRing : ByteArray := prog_12_method_36_code
def yX10_layRing : MethodName := ⟨RX10, "layRing", "(II)Z"⟩
abbrev cX10_findRing : ByteArray := prog_12_method_37_code
def yX10_findRing : MethodName := ⟨RX10, "findRing", "()V"⟩
abbrev cX10_ring : ByteArray := prog_12_method_38_code
def yX10_ring : MethodName := ⟨RX10, "ring", "(I)I"⟩
abbrev cX10_leastOf : ByteArray := prog_12_method_39_code
def yX10_leastOf : MethodName := ⟨RX10, "leastOf", "(II)I"⟩
abbrev cX10_cancel : ByteArray := prog_12_method_40_code
def yX10_cancel : MethodName := ⟨RX10, "cancel", "()I"⟩
abbrev cX10_netOf : ByteArray := prog_12_method_41_code
def yX10_netOf : MethodName := ⟨RX10, "netOf", "(I)I"⟩
abbrev cX10_net : ByteArray := prog_12_method_42_code
def yX10_net : MethodName := ⟨RX10, "net", "(I)I"⟩
abbrev cX10_fewest : ByteArray := prog_12_method_43_code
def yX10_fewest : MethodName := ⟨RX10, "fewest", "()I"⟩
abbrev cX10_need0 : ByteArray := prog_12_method_44_code
def yX10_need0 : MethodName := ⟨RX10, "need0", "(II)I"⟩
abbrev cX10_mayMeet : ByteArray := prog_12_method_45_code
def yX10_mayMeet : MethodName := ⟨RX10, "mayMeet", "(II)Z"⟩
abbrev cX10_fits : ByteArray := prog_12_method_46_code
def yX10_fits : MethodName := ⟨RX10, "fits", "(I)Z"⟩
abbrev cX10_look : ByteArray := prog_12_method_47_code
def yX10_look : MethodName := ⟨RX10, "look", "()V"⟩
abbrev cX10_findMet : ByteArray := prog_12_method_48_code
def yX10_findMet : MethodName := ⟨RX10, "findMet", "()V"⟩
abbrev cX10_met : ByteArray := prog_12_method_49_code
def yX10_met : MethodName := ⟨RX10, "met", "(I)I"⟩
abbrev cX10_plan : ByteArray := prog_12_method_50_code
def yX10_plan : MethodName := ⟨RX10, "plan", "(I)I"⟩
abbrev cX10_toDo : ByteArray := prog_12_method_51_code
def yX10_toDo : MethodName := ⟨RX10, "toDo", "(II)I"⟩
abbrev cX10_doneFor : ByteArray := prog_12_method_52_code
def yX10_doneFor : MethodName := ⟨RX10, "doneFor", "(III)I"⟩
abbrev cX10_fire : ByteArray := prog_12_method_53_code
def yX10_fire : MethodName := ⟨RX10, "fire", "(II)I"⟩
abbrev cX10_ratesBy : ByteArray := prog_12_method_54_code
def yX10_ratesBy : MethodName := ⟨RX10, "ratesBy", "(I)I"⟩
abbrev cX10_hold : ByteArray := prog_12_method_55_code
def yX10_hold : MethodName := ⟨RX10, "hold", "(I)I"⟩
abbrev cX10_rate : ByteArray := prog_12_method_56_code
def yX10_rate : MethodName := ⟨RX10, "rate", "(II)I"⟩
abbrev cX10_set : ByteArray := prog_12_method_57_code
def yX10_set : MethodName := ⟨RX10, "set", "(II)I"⟩
abbrev cX10_settles : ByteArray := prog_12_method_58_code
def yX10_settles : MethodName := ⟨RX10, "settles", "()I"⟩
abbrev cX10_told : ByteArray := prog_12_method_59_code
def yX10_told : MethodName := ⟨RX10, "told", "(III)I"⟩
abbrev cX10_forged : ByteArray := prog_12_method_60_code
def yX10_forged : MethodName := ⟨RX10, "forged", "()I"⟩
abbrev cX10_forget : ByteArray := prog_12_method_61_code
def yX10_forget : MethodName := ⟨RX10, "forget", "()I"⟩
abbrev cX10_goesOff : ByteArray := prog_12_method_62_code
def yX10_goesOff : MethodName := ⟨RX10, "goesOff", "(I)I"⟩
abbrev cX10_kept : ByteArray := prog_12_method_63_code
def yX10_kept : MethodName := ⟨RX10, "kept", "(II)I"⟩
abbrev cX10_type : ByteArray := prog_12_method_64_code
def yX10_type : MethodName := ⟨RX10, "type", "(JI)I"⟩
abbrev cX10_clear : ByteArray := prog_12_method_65_code
def yX10_clear : MethodName := ⟨RX10, "clear", "()I"⟩
abbrev cX10_isSmall : ByteArray := prog_12_method_66_code
def yX10_isSmall : MethodName := ⟨RX10, "isSmall", "(I)Z"⟩
abbrev cX10_isFigure : ByteArray := prog_12_method_67_code
def yX10_isFigure : MethodName := ⟨RX10, "isFigure", "(I)Z"⟩
abbrev cX10_lookAt : ByteArray := prog_12_method_68_code
def yX10_lookAt : MethodName := ⟨RX10, "lookAt", "(I)V"⟩
abbrev cX10_goOn : ByteArray := prog_12_method_69_code
def yX10_goOn : MethodName := ⟨RX10, "goOn", "()V"⟩
abbrev cX10_isWord : ByteArray := prog_12_method_70_code
def yX10_isWord : MethodName := ⟨RX10, "isWord", "(IIIIII)Z"⟩
abbrev cX10_takes : ByteArray := prog_12_method_71_code
def yX10_takes : MethodName := ⟨RX10, "takes", "(III)Z"⟩
abbrev cX10_readsStrong : ByteArray := prog_12_method_72_code
def yX10_readsStrong : MethodName := ⟨RX10, "readsStrong", "()Z"⟩
abbrev cX10_readsFavour : ByteArray := prog_12_method_73_code
def yX10_readsFavour : MethodName := ⟨RX10, "readsFavour", "()Z"⟩
abbrev cX10_readsNeed : ByteArray := prog_12_method_74_code
def yX10_readsNeed : MethodName := ⟨RX10, "readsNeed", "()Z"⟩
abbrev cX10_readsItem : ByteArray := prog_12_method_75_code
def yX10_readsItem : MethodName := ⟨RX10, "readsItem", "(Z)Z"⟩
abbrev cX10_read : ByteArray := prog_12_method_76_code
def yX10_read : MethodName := ⟨RX10, "read", "()I"⟩
abbrev cX10_part : ByteArray := prog_12_method_77_code
def yX10_part : MethodName := ⟨RX10, "part", "(I)J"⟩
abbrev cX10_image : ByteArray := prog_12_method_78_code
def yX10_image : MethodName := ⟨RX10, "image", "(I)I"⟩
abbrev cX10_from : ByteArray := prog_12_method_79_code
def yX10_from : MethodName := ⟨RX10, "from", "(I)I"⟩
abbrev cX10_status : ByteArray := prog_12_method_80_code
def yX10_status : MethodName := ⟨RX10, "status", "(I)I"⟩
abbrev cX10_counted : ByteArray := prog_12_method_81_code
def yX10_counted : MethodName := ⟨RX10, "counted", "(I)I"⟩
abbrev cX10_count : ByteArray := prog_12_method_82_code
def yX10_count : MethodName := ⟨RX10, "count", "(I)I"⟩
abbrev cX10_sums : ByteArray := prog_12_method_83_code
def yX10_sums : MethodName := ⟨RX10, "sums", "(JII)J"⟩
abbrev cX10_digest : ByteArray := prog_12_method_84_code
def yX10_digest : MethodName := ⟨RX10, "digest", "()J"⟩
def RJ9 : String := "java/lang/Math"
def TJ9 : u_T := fun k => match k with
  | _ => ("", "", "", false)
def tyJ9 : Nat → FieldType := fun k => match k with
  | _ => .int
abbrev wsJ90 : List Cond := u_ws RJ9 TJ9 0
theorem nmJ9 : ∀ a, a < 0 → ∀ b, b < 0 → a ≠ b → (TJ9 a).2.1 ≠ (TJ9 b).2.1 := by decide +kernel
theorem tyJ9_ok : ∀ k, k < 0 → parseFieldDescriptor (TJ9 k).2.2.1 = some (tyJ9 k) := by decide +kernel
abbrev cJ9_max_7cf53 : ByteArray := prog_13_method_65_code
def yJ9_max_7cf53 : MethodName := ⟨RJ9, "max", "(II)I"⟩
abbrev cJ9_min_7cf53 : ByteArray := prog_13_method_69_code
def yJ9_min_7cf53 : MethodName := ⟨RJ9, "min", "(II)I"⟩
def RJ0 : String := "java/lang/String"
def TJ0 : u_T := fun k => match k with
  | _ => ("", "", "", false)
def tyJ0 : Nat → FieldType := fun k => match k with
  | _ => .int
abbrev wsJ00 : List Cond := u_ws RJ0 TJ0 0
theorem nmJ0 : ∀ a, a < 0 → ∀ b, b < 0 → a ≠ b → (TJ0 a).2.1 ≠ (TJ0 b).2.1 := by decide +kernel
theorem tyJ0_ok : ∀ k, k < 0 → parseFieldDescriptor (TJ0 k).2.2.1 = some (tyJ0 k) := by decide +kernel
abbrev cJ0_length_8abf5 : ByteArray := prog_14_method_54_code
def yJ0_length_8abf5 : MethodName := ⟨RJ0, "length", "()I"⟩
abbrev cJ0_charAt_5068e : ByteArray := prog_14_method_56_code
def yJ0_charAt_5068e : MethodName := ⟨RJ0, "charAt", "(I)C"⟩
abbrev cJ0_coder_7d493 : ByteArray := prog_14_method_152_code
def yJ0_coder_7d493 : MethodName := ⟨RJ0, "coder", "()B"⟩
abbrev cJ0_isLatin1_aae02 : ByteArray := prog_14_method_154_code
def yJ0_isLatin1_aae02 : MethodName := ⟨RJ0, "isLatin1", "()Z"⟩
abbrev cJ0_checkIndex_df160 : ByteArray := prog_14_method_155_code
def yJ0_checkIndex_df160 : MethodName := ⟨RJ0, "checkIndex", "(II)V"⟩
def RJ1 : String := "java/lang/StringLatin1"
def TJ1 : u_T := fun k => match k with
  | _ => ("", "", "", false)
def tyJ1 : Nat → FieldType := fun k => match k with
  | _ => .int
abbrev wsJ10 : List Cond := u_ws RJ1 TJ1 0
theorem nmJ1 : ∀ a, a < 0 → ∀ b, b < 0 → a ≠ b → (TJ1 a).2.1 ≠ (TJ1 b).2.1 := by decide +kernel
theorem tyJ1_ok : ∀ k, k < 0 → parseFieldDescriptor (TJ1 k).2.2.1 = some (tyJ1 k) := by decide +kernel
abbrev cJ1_charAt_3b067 : ByteArray := prog_15_method_2_code
def yJ1_charAt_3b067 : MethodName := ⟨RJ1, "charAt", "([BI)C"⟩
def RJ2 : String := "java/lang/StringUTF16"
def TJ2 : u_T := fun k => match k with
  | _ => ("", "", "", false)
def tyJ2 : Nat → FieldType := fun k => match k with
  | _ => .int
abbrev wsJ20 : List Cond := u_ws RJ2 TJ2 0
theorem nmJ2 : ∀ a, a < 0 → ∀ b, b < 0 → a ≠ b → (TJ2 a).2.1 ≠ (TJ2 b).2.1 := by decide +kernel
theorem tyJ2_ok : ∀ k, k < 0 → parseFieldDescriptor (TJ2 k).2.2.1 = some (tyJ2 k) := by decide +kernel
abbrev cJ2_getChar_3b067 : ByteArray := prog_16_method_5_code
def yJ2_getChar_3b067 : MethodName := ⟨RJ2, "getChar", "([BI)C"⟩
abbrev cJ2_length_9d52b : ByteArray := prog_16_method_6_code
def yJ2_length_9d52b : MethodName := ⟨RJ2, "length", "([B)I"⟩
abbrev cJ2_charAt_3b067 : ByteArray := prog_16_method_83_code
def yJ2_charAt_3b067 : MethodName := ⟨RJ2, "charAt", "([BI)C"⟩
abbrev cJ2_checkIndex_2214a : ByteArray := prog_16_method_91_code
def yJ2_checkIndex_2214a : MethodName := ⟨RJ2, "checkIndex", "(I[B)V"⟩
def RJ10 : String := "java/lang/System"
def TJ10 : u_T := fun k => match k with
  | _ => ("", "", "", false)
def tyJ10 : Nat → FieldType := fun k => match k with
  | _ => .int
abbrev wsJ100 : List Cond := u_ws RJ10 TJ10 0
theorem nmJ10 : ∀ a, a < 0 → ∀ b, b < 0 → a ≠ b → (TJ10 a).2.1 ≠ (TJ10 b).2.1 := by decide +kernel
theorem tyJ10_ok : ∀ k, k < 0 → parseFieldDescriptor (TJ10 k).2.2.1 = some (tyJ10 k) := by decide +kernel
def RJ3 : String := "jdk/internal/util/Preconditions"
def TJ3 : u_T := fun k => match k with
  | _ => ("", "", "", false)
def tyJ3 : Nat → FieldType := fun k => match k with
  | _ => .int
abbrev wsJ30 : List Cond := u_ws RJ3 TJ3 0
theorem nmJ3 : ∀ a, a < 0 → ∀ b, b < 0 → a ≠ b → (TJ3 a).2.1 ≠ (TJ3 b).2.1 := by decide +kernel
theorem tyJ3_ok : ∀ k, k < 0 → parseFieldDescriptor (TJ3 k).2.2.1 = some (tyJ3 k) := by decide +kernel
abbrev cJ3_checkIndex_8e157 : ByteArray := prog_18_method_11_code
def yJ3_checkIndex_8e157 : MethodName := ⟨RJ3, "checkIndex", "(IILjava/util/function/BiFunction;)I"⟩
def RL : String := "FavoursGoOffLaw"
abbrev cL_law : ByteArray := code
def yL_law : MethodName := ⟨RL, "law", "([I)Z"⟩

abbrev vwCl : List vw_C := [(RX0, TX0, 2), (RX1, TX1, 6), (RX2, TX2, 2), (RX3, TX3, 5), (RX4, TX4, 13), (RX5, TX5, 8), (RX6, TX6, 6), (RX7, TX7, 3), (RX8, TX8, 2), (RX9, TX9, 13), (RX10, TX10, 24)]
/-- the tables' words that any call may hand on -/
def TB : List Cond := lw_tbl.filter goodWord
theorem tb_good : ∀ w ∈ TB, goodWord w = true := fun _ h => (List.mem_filter.mp h).2
theorem tb_sub : ∀ w ∈ TB, w ∈ lw_tbl := fun _ h => (List.mem_filter.mp h).1
theorem tb_t {w : Cond} (i : Nat) (h : tables_1[i]? = some w) (hg : goodWord w = true) : w ∈ TB := List.mem_filter.mpr ⟨List.mem_append_right _ (List.mem_of_getElem? h), hg⟩
theorem tb_s {w : Cond} (i : Nat) (h : (k2_sels lw_privs)[i]? = some w) (hg : goodWord w = true) : w ∈ TB := List.mem_filter.mpr ⟨List.mem_append_left _ (List.mem_of_getElem? h), hg⟩
