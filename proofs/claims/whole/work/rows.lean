section
-- ===== PART A: goes FIRST, ahead of the names: the tables' words, and 'selects' of the private methods out of them =====
/-- a private method of a class that the tables say can be made, by its rows of tables_1 -/
def lw_okq (q : MethodName × Nat) : Prop := (q.1.cls ≠ "java/lang/invoke/MethodHandle" ∧ q.1.cls ≠ "java/lang/invoke/VarHandle") ∧ Cond.instantiable q.1.cls q.2 ∈ tables_1 ∧ Cond.privateMethod q.1 ∈ tables_1 ∧ Cond.instanceMethod q.1 ∈ tables_1
theorem lw_p0 : lw_okq (⟨"FavoursGoOff$Table", "placeOf", "(II)I"⟩, 3) := ⟨⟨by decide +kernel, by decide +kernel⟩, List.mem_of_getElem? (i := 39) (by decide +kernel), List.mem_of_getElem? (i := 294) (by decide +kernel), List.mem_of_getElem? (i := 295) (by decide +kernel)⟩
theorem lw_p1 : lw_okq (⟨"FavoursGoOff", "bad", "(I)I"⟩, 13) := ⟨⟨by decide +kernel, by decide +kernel⟩, List.mem_of_getElem? (i := 19) (by decide +kernel), List.mem_of_getElem? (i := 349) (by decide +kernel), List.mem_of_getElem? (i := 350) (by decide +kernel)⟩
theorem lw_p2 : lw_okq (⟨"FavoursGoOff", "full", "()I"⟩, 13) := ⟨⟨by decide +kernel, by decide +kernel⟩, List.mem_of_getElem? (i := 19) (by decide +kernel), List.mem_of_getElem? (i := 377) (by decide +kernel), List.mem_of_getElem? (i := 378) (by decide +kernel)⟩
theorem lw_p3 : lw_okq (⟨"FavoursGoOff", "isDayToCome", "(I)Z"⟩, 13) := ⟨⟨by decide +kernel, by decide +kernel⟩, List.mem_of_getElem? (i := 19) (by decide +kernel), List.mem_of_getElem? (i := 389) (by decide +kernel), List.mem_of_getElem? (i := 390) (by decide +kernel)⟩
theorem lw_p4 : lw_okq (⟨"FavoursGoOff$Reader", "step", "()V"⟩, 8) := ⟨⟨by decide +kernel, by decide +kernel⟩, List.mem_of_getElem? (i := 113) (by decide +kernel), List.mem_of_getElem? (i := 422) (by decide +kernel), List.mem_of_getElem? (i := 423) (by decide +kernel)⟩
theorem lw_p5 : lw_okq (⟨"FavoursGoOff$Reader", "endOfRun", "(II)I"⟩, 8) := ⟨⟨by decide +kernel, by decide +kernel⟩, List.mem_of_getElem? (i := 113) (by decide +kernel), List.mem_of_getElem? (i := 431) (by decide +kernel), List.mem_of_getElem? (i := 432) (by decide +kernel)⟩
theorem lw_p6 : lw_okq (⟨"FavoursGoOff$Reader", "takeFigures", "()V"⟩, 8) := ⟨⟨by decide +kernel, by decide +kernel⟩, List.mem_of_getElem? (i := 113) (by decide +kernel), List.mem_of_getElem? (i := 435) (by decide +kernel), List.mem_of_getElem? (i := 436) (by decide +kernel)⟩
theorem lw_p7 : lw_okq (⟨"FavoursGoOff$Reader", "readPeople", "()V"⟩, 8) := ⟨⟨by decide +kernel, by decide +kernel⟩, List.mem_of_getElem? (i := 113) (by decide +kernel), List.mem_of_getElem? (i := 439) (by decide +kernel), List.mem_of_getElem? (i := 440) (by decide +kernel)⟩
theorem lw_p8 : lw_okq (⟨"FavoursGoOff$Reader", "isWord", "(Ljava/lang/String;)Z"⟩, 8) := ⟨⟨by decide +kernel, by decide +kernel⟩, List.mem_of_getElem? (i := 113) (by decide +kernel), List.mem_of_getElem? (i := 444) (by decide +kernel), List.mem_of_getElem? (i := 445) (by decide +kernel)⟩
theorem lw_p9 : lw_okq (⟨"FavoursGoOff$Reader", "fail", "()V"⟩, 8) := ⟨⟨by decide +kernel, by decide +kernel⟩, List.mem_of_getElem? (i := 113) (by decide +kernel), List.mem_of_getElem? (i := 496) (by decide +kernel), List.mem_of_getElem? (i := 497) (by decide +kernel)⟩
theorem lw_p10 : lw_okq (⟨"FavoursGoOff$Reader", "takeNumber", "(II)I"⟩, 8) := ⟨⟨by decide +kernel, by decide +kernel⟩, List.mem_of_getElem? (i := 113) (by decide +kernel), List.mem_of_getElem? (i := 500) (by decide +kernel), List.mem_of_getElem? (i := 501) (by decide +kernel)⟩
theorem lw_p11 : lw_okq (⟨"FavoursGoOff$Reader", "takeStop", "()V"⟩, 8) := ⟨⟨by decide +kernel, by decide +kernel⟩, List.mem_of_getElem? (i := 113) (by decide +kernel), List.mem_of_getElem? (i := 504) (by decide +kernel), List.mem_of_getElem? (i := 505) (by decide +kernel)⟩
theorem lw_p12 : lw_okq (⟨"FavoursGoOff$Reader", "readItem", "()V"⟩, 8) := ⟨⟨by decide +kernel, by decide +kernel⟩, List.mem_of_getElem? (i := 113) (by decide +kernel), List.mem_of_getElem? (i := 509) (by decide +kernel), List.mem_of_getElem? (i := 510) (by decide +kernel)⟩
theorem lw_p13 : lw_okq (⟨"FavoursGoOff$Reader", "readStrong", "()V"⟩, 8) := ⟨⟨by decide +kernel, by decide +kernel⟩, List.mem_of_getElem? (i := 113) (by decide +kernel), List.mem_of_getElem? (i := 514) (by decide +kernel), List.mem_of_getElem? (i := 515) (by decide +kernel)⟩
theorem lw_p14 : lw_okq (⟨"FavoursGoOff$Reader", "readFavour", "()V"⟩, 8) := ⟨⟨by decide +kernel, by decide +kernel⟩, List.mem_of_getElem? (i := 113) (by decide +kernel), List.mem_of_getElem? (i := 521) (by decide +kernel), List.mem_of_getElem? (i := 522) (by decide +kernel)⟩
theorem lw_p15 : lw_okq (⟨"FavoursGoOff$Reader", "refuse", "(I)V"⟩, 8) := ⟨⟨by decide +kernel, by decide +kernel⟩, List.mem_of_getElem? (i := 113) (by decide +kernel), List.mem_of_getElem? (i := 525) (by decide +kernel), List.mem_of_getElem? (i := 526) (by decide +kernel)⟩
def lw_privs_1 : List (MethodName × Nat) := [(⟨"FavoursGoOff$Table", "placeOf", "(II)I"⟩, 3), (⟨"FavoursGoOff", "bad", "(I)I"⟩, 13), (⟨"FavoursGoOff", "full", "()I"⟩, 13), (⟨"FavoursGoOff", "isDayToCome", "(I)Z"⟩, 13), (⟨"FavoursGoOff$Reader", "step", "()V"⟩, 8), (⟨"FavoursGoOff$Reader", "endOfRun", "(II)I"⟩, 8), (⟨"FavoursGoOff$Reader", "takeFigures", "()V"⟩, 8), (⟨"FavoursGoOff$Reader", "readPeople", "()V"⟩, 8), (⟨"FavoursGoOff$Reader", "isWord", "(Ljava/lang/String;)Z"⟩, 8), (⟨"FavoursGoOff$Reader", "fail", "()V"⟩, 8), (⟨"FavoursGoOff$Reader", "takeNumber", "(II)I"⟩, 8), (⟨"FavoursGoOff$Reader", "takeStop", "()V"⟩, 8), (⟨"FavoursGoOff$Reader", "readItem", "()V"⟩, 8), (⟨"FavoursGoOff$Reader", "readStrong", "()V"⟩, 8), (⟨"FavoursGoOff$Reader", "readFavour", "()V"⟩, 8), (⟨"FavoursGoOff$Reader", "refuse", "(I)V"⟩, 8)]
theorem lw_r1 : ∀ q ∈ lw_privs_1, lw_okq q := List.forall_mem_cons.mpr ⟨lw_p0, List.forall_mem_cons.mpr ⟨lw_p1, List.forall_mem_cons.mpr ⟨lw_p2, List.forall_mem_cons.mpr ⟨lw_p3, List.forall_mem_cons.mpr ⟨lw_p4, List.forall_mem_cons.mpr ⟨lw_p5, List.forall_mem_cons.mpr ⟨lw_p6, List.forall_mem_cons.mpr ⟨lw_p7, List.forall_mem_cons.mpr ⟨lw_p8, List.forall_mem_cons.mpr ⟨lw_p9, List.forall_mem_cons.mpr ⟨lw_p10, List.forall_mem_cons.mpr ⟨lw_p11, List.forall_mem_cons.mpr ⟨lw_p12, List.forall_mem_cons.mpr ⟨lw_p13, List.forall_mem_cons.mpr ⟨lw_p14, List.forall_mem_cons.mpr ⟨lw_p15, fun _ h => absurd h List.not_mem_nil⟩⟩⟩⟩⟩⟩⟩⟩⟩⟩⟩⟩⟩⟩⟩⟩
theorem lw_p16 : lw_okq (⟨"FavoursGoOff$Reader", "readNeed", "()V"⟩, 8) := ⟨⟨by decide +kernel, by decide +kernel⟩, List.mem_of_getElem? (i := 113) (by decide +kernel), List.mem_of_getElem? (i := 531) (by decide +kernel), List.mem_of_getElem? (i := 532) (by decide +kernel)⟩
theorem lw_p17 : lw_okq (⟨"FavoursGoOff", "no", "(I)I"⟩, 13) := ⟨⟨by decide +kernel, by decide +kernel⟩, List.mem_of_getElem? (i := 19) (by decide +kernel), List.mem_of_getElem? (i := 574) (by decide +kernel), List.mem_of_getElem? (i := 575) (by decide +kernel)⟩
theorem lw_p18 : lw_okq (⟨"FavoursGoOff", "findRing", "()V"⟩, 13) := ⟨⟨by decide +kernel, by decide +kernel⟩, List.mem_of_getElem? (i := 19) (by decide +kernel), List.mem_of_getElem? (i := 651) (by decide +kernel), List.mem_of_getElem? (i := 652) (by decide +kernel)⟩
theorem lw_p19 : lw_okq (⟨"FavoursGoOff$Circle", "holds", "(II)Z"⟩, 2) := ⟨⟨by decide +kernel, by decide +kernel⟩, List.mem_of_getElem? (i := 194) (by decide +kernel), List.mem_of_getElem? (i := 667) (by decide +kernel), List.mem_of_getElem? (i := 668) (by decide +kernel)⟩
theorem lw_p20 : lw_okq (⟨"FavoursGoOff$Debts", "doneFor", "(II)I"⟩, 6) := ⟨⟨by decide +kernel, by decide +kernel⟩, List.mem_of_getElem? (i := 164) (by decide +kernel), List.mem_of_getElem? (i := 689) (by decide +kernel), List.mem_of_getElem? (i := 690) (by decide +kernel)⟩
theorem lw_p21 : lw_okq (⟨"FavoursGoOff$Debts", "dueFrom", "(I)I"⟩, 6) := ⟨⟨by decide +kernel, by decide +kernel⟩, List.mem_of_getElem? (i := 164) (by decide +kernel), List.mem_of_getElem? (i := 694) (by decide +kernel), List.mem_of_getElem? (i := 695) (by decide +kernel)⟩
theorem lw_p22 : lw_okq (⟨"FavoursGoOff$Debts", "mostGroups", "(I)I"⟩, 6) := ⟨⟨by decide +kernel, by decide +kernel⟩, List.mem_of_getElem? (i := 164) (by decide +kernel), List.mem_of_getElem? (i := 707) (by decide +kernel), List.mem_of_getElem? (i := 708) (by decide +kernel)⟩
theorem lw_p23 : lw_okq (⟨"FavoursGoOff$Plan", "layOut", "(LFavoursGoOff$Street;I)V"⟩, 13) := ⟨⟨by decide +kernel, by decide +kernel⟩, List.mem_of_getElem? (i := 208) (by decide +kernel), List.mem_of_getElem? (i := 722) (by decide +kernel), List.mem_of_getElem? (i := 723) (by decide +kernel)⟩
theorem lw_p24 : lw_okq (⟨"FavoursGoOff$Plan", "lookAhead", "()V"⟩, 13) := ⟨⟨by decide +kernel, by decide +kernel⟩, List.mem_of_getElem? (i := 208) (by decide +kernel), List.mem_of_getElem? (i := 728) (by decide +kernel), List.mem_of_getElem? (i := 729) (by decide +kernel)⟩
theorem lw_p25 : lw_okq (⟨"FavoursGoOff$Plan", "keepIfBetter", "(II)V"⟩, 13) := ⟨⟨by decide +kernel, by decide +kernel⟩, List.mem_of_getElem? (i := 208) (by decide +kernel), List.mem_of_getElem? (i := 735) (by decide +kernel), List.mem_of_getElem? (i := 736) (by decide +kernel)⟩
theorem lw_p26 : lw_okq (⟨"FavoursGoOff$Plan", "isNoBetter", "(II)Z"⟩, 13) := ⟨⟨by decide +kernel, by decide +kernel⟩, List.mem_of_getElem? (i := 208) (by decide +kernel), List.mem_of_getElem? (i := 739) (by decide +kernel), List.mem_of_getElem? (i := 740) (by decide +kernel)⟩
theorem lw_p27 : lw_okq (⟨"FavoursGoOff", "imageAt", "(I)LFavoursGoOff$History;"⟩, 13) := ⟨⟨by decide +kernel, by decide +kernel⟩, List.mem_of_getElem? (i := 19) (by decide +kernel), List.mem_of_getElem? (i := 837) (by decide +kernel), List.mem_of_getElem? (i := 838) (by decide +kernel)⟩
theorem lw_p28 : lw_okq (⟨"FavoursGoOff", "howMany", "(I)I"⟩, 13) := ⟨⟨by decide +kernel, by decide +kernel⟩, List.mem_of_getElem? (i := 19) (by decide +kernel), List.mem_of_getElem? (i := 857) (by decide +kernel), List.mem_of_getElem? (i := 858) (by decide +kernel)⟩
theorem lw_p29 : lw_okq (⟨"FavoursGoOffModel", "bad", "(I)I"⟩, 24) := ⟨⟨by decide +kernel, by decide +kernel⟩, List.mem_of_getElem? (i := 872) (by decide +kernel), List.mem_of_getElem? (i := 964) (by decide +kernel), List.mem_of_getElem? (i := 965) (by decide +kernel)⟩
theorem lw_p30 : lw_okq (⟨"FavoursGoOffModel", "many", "()I"⟩, 24) := ⟨⟨by decide +kernel, by decide +kernel⟩, List.mem_of_getElem? (i := 872) (by decide +kernel), List.mem_of_getElem? (i := 968) (by decide +kernel), List.mem_of_getElem? (i := 969) (by decide +kernel)⟩
theorem lw_p31 : lw_okq (⟨"FavoursGoOffModel", "isOne", "(I)Z"⟩, 24) := ⟨⟨by decide +kernel, by decide +kernel⟩, List.mem_of_getElem? (i := 872) (by decide +kernel), List.mem_of_getElem? (i := 976) (by decide +kernel), List.mem_of_getElem? (i := 977) (by decide +kernel)⟩
def lw_privs_2 : List (MethodName × Nat) := [(⟨"FavoursGoOff$Reader", "readNeed", "()V"⟩, 8), (⟨"FavoursGoOff", "no", "(I)I"⟩, 13), (⟨"FavoursGoOff", "findRing", "()V"⟩, 13), (⟨"FavoursGoOff$Circle", "holds", "(II)Z"⟩, 2), (⟨"FavoursGoOff$Debts", "doneFor", "(II)I"⟩, 6), (⟨"FavoursGoOff$Debts", "dueFrom", "(I)I"⟩, 6), (⟨"FavoursGoOff$Debts", "mostGroups", "(I)I"⟩, 6), (⟨"FavoursGoOff$Plan", "layOut", "(LFavoursGoOff$Street;I)V"⟩, 13), (⟨"FavoursGoOff$Plan", "lookAhead", "()V"⟩, 13), (⟨"FavoursGoOff$Plan", "keepIfBetter", "(II)V"⟩, 13), (⟨"FavoursGoOff$Plan", "isNoBetter", "(II)Z"⟩, 13), (⟨"FavoursGoOff", "imageAt", "(I)LFavoursGoOff$History;"⟩, 13), (⟨"FavoursGoOff", "howMany", "(I)I"⟩, 13), (⟨"FavoursGoOffModel", "bad", "(I)I"⟩, 24), (⟨"FavoursGoOffModel", "many", "()I"⟩, 24), (⟨"FavoursGoOffModel", "isOne", "(I)Z"⟩, 24)]
theorem lw_r2 : ∀ q ∈ lw_privs_2, lw_okq q := List.forall_mem_cons.mpr ⟨lw_p16, List.forall_mem_cons.mpr ⟨lw_p17, List.forall_mem_cons.mpr ⟨lw_p18, List.forall_mem_cons.mpr ⟨lw_p19, List.forall_mem_cons.mpr ⟨lw_p20, List.forall_mem_cons.mpr ⟨lw_p21, List.forall_mem_cons.mpr ⟨lw_p22, List.forall_mem_cons.mpr ⟨lw_p23, List.forall_mem_cons.mpr ⟨lw_p24, List.forall_mem_cons.mpr ⟨lw_p25, List.forall_mem_cons.mpr ⟨lw_p26, List.forall_mem_cons.mpr ⟨lw_p27, List.forall_mem_cons.mpr ⟨lw_p28, List.forall_mem_cons.mpr ⟨lw_p29, List.forall_mem_cons.mpr ⟨lw_p30, List.forall_mem_cons.mpr ⟨lw_p31, fun _ h => absurd h List.not_mem_nil⟩⟩⟩⟩⟩⟩⟩⟩⟩⟩⟩⟩⟩⟩⟩⟩
theorem lw_p32 : lw_okq (⟨"FavoursGoOffModel", "full", "()I"⟩, 24) := ⟨⟨by decide +kernel, by decide +kernel⟩, List.mem_of_getElem? (i := 872) (by decide +kernel), List.mem_of_getElem? (i := 994) (by decide +kernel), List.mem_of_getElem? (i := 995) (by decide +kernel)⟩
theorem lw_p33 : lw_okq (⟨"FavoursGoOffModel", "day", "()I"⟩, 24) := ⟨⟨by decide +kernel, by decide +kernel⟩, List.mem_of_getElem? (i := 872) (by decide +kernel), List.mem_of_getElem? (i := 998) (by decide +kernel), List.mem_of_getElem? (i := 999) (by decide +kernel)⟩
theorem lw_p34 : lw_okq (⟨"FavoursGoOffModel", "isFavour", "(I)Z"⟩, 24) := ⟨⟨by decide +kernel, by decide +kernel⟩, List.mem_of_getElem? (i := 872) (by decide +kernel), List.mem_of_getElem? (i := 1020) (by decide +kernel), List.mem_of_getElem? (i := 1021) (by decide +kernel)⟩
theorem lw_p35 : lw_okq (⟨"FavoursGoOffModel", "valueOf", "(II)I"⟩, 24) := ⟨⟨by decide +kernel, by decide +kernel⟩, List.mem_of_getElem? (i := 872) (by decide +kernel), List.mem_of_getElem? (i := 1024) (by decide +kernel), List.mem_of_getElem? (i := 1025) (by decide +kernel)⟩
theorem lw_p36 : lw_okq (⟨"FavoursGoOffModel", "told0", "(II)I"⟩, 24) := ⟨⟨by decide +kernel, by decide +kernel⟩, List.mem_of_getElem? (i := 872) (by decide +kernel), List.mem_of_getElem? (i := 1028) (by decide +kernel), List.mem_of_getElem? (i := 1029) (by decide +kernel)⟩
theorem lw_p37 : lw_okq (⟨"FavoursGoOffModel", "valueNow", "(I)I"⟩, 24) := ⟨⟨by decide +kernel, by decide +kernel⟩, List.mem_of_getElem? (i := 872) (by decide +kernel), List.mem_of_getElem? (i := 1043) (by decide +kernel), List.mem_of_getElem? (i := 1044) (by decide +kernel)⟩
theorem lw_p38 : lw_okq (⟨"FavoursGoOffModel", "no", "(I)I"⟩, 24) := ⟨⟨by decide +kernel, by decide +kernel⟩, List.mem_of_getElem? (i := 872) (by decide +kernel), List.mem_of_getElem? (i := 1047) (by decide +kernel), List.mem_of_getElem? (i := 1048) (by decide +kernel)⟩
theorem lw_p39 : lw_okq (⟨"FavoursGoOffModel", "lose", "(I)V"⟩, 24) := ⟨⟨by decide +kernel, by decide +kernel⟩, List.mem_of_getElem? (i := 872) (by decide +kernel), List.mem_of_getElem? (i := 1051) (by decide +kernel), List.mem_of_getElem? (i := 1052) (by decide +kernel)⟩
theorem lw_p40 : lw_okq (⟨"FavoursGoOffModel", "owesTo", "(II)I"⟩, 24) := ⟨⟨by decide +kernel, by decide +kernel⟩, List.mem_of_getElem? (i := 872) (by decide +kernel), List.mem_of_getElem? (i := 1075) (by decide +kernel), List.mem_of_getElem? (i := 1076) (by decide +kernel)⟩
theorem lw_p41 : lw_okq (⟨"FavoursGoOffModel", "findRing", "()V"⟩, 24) := ⟨⟨by decide +kernel, by decide +kernel⟩, List.mem_of_getElem? (i := 872) (by decide +kernel), List.mem_of_getElem? (i := 1083) (by decide +kernel), List.mem_of_getElem? (i := 1084) (by decide +kernel)⟩
theorem lw_p42 : lw_okq (⟨"FavoursGoOffModel", "layRing", "(II)Z"⟩, 24) := ⟨⟨by decide +kernel, by decide +kernel⟩, List.mem_of_getElem? (i := 872) (by decide +kernel), List.mem_of_getElem? (i := 1087) (by decide +kernel), List.mem_of_getElem? (i := 1088) (by decide +kernel)⟩
theorem lw_p43 : lw_okq (⟨"FavoursGoOffModel", "leastOf", "(II)I"⟩, 24) := ⟨⟨by decide +kernel, by decide +kernel⟩, List.mem_of_getElem? (i := 872) (by decide +kernel), List.mem_of_getElem? (i := 1095) (by decide +kernel), List.mem_of_getElem? (i := 1096) (by decide +kernel)⟩
theorem lw_p44 : lw_okq (⟨"FavoursGoOffModel", "netOf", "(I)I"⟩, 24) := ⟨⟨by decide +kernel, by decide +kernel⟩, List.mem_of_getElem? (i := 872) (by decide +kernel), List.mem_of_getElem? (i := 1103) (by decide +kernel), List.mem_of_getElem? (i := 1104) (by decide +kernel)⟩
theorem lw_p45 : lw_okq (⟨"FavoursGoOffModel", "findMet", "()V"⟩, 24) := ⟨⟨by decide +kernel, by decide +kernel⟩, List.mem_of_getElem? (i := 872) (by decide +kernel), List.mem_of_getElem? (i := 1115) (by decide +kernel), List.mem_of_getElem? (i := 1116) (by decide +kernel)⟩
theorem lw_p46 : lw_okq (⟨"FavoursGoOffModel", "fits", "(I)Z"⟩, 24) := ⟨⟨by decide +kernel, by decide +kernel⟩, List.mem_of_getElem? (i := 872) (by decide +kernel), List.mem_of_getElem? (i := 1119) (by decide +kernel), List.mem_of_getElem? (i := 1120) (by decide +kernel)⟩
theorem lw_p47 : lw_okq (⟨"FavoursGoOffModel", "mayMeet", "(II)Z"⟩, 24) := ⟨⟨by decide +kernel, by decide +kernel⟩, List.mem_of_getElem? (i := 872) (by decide +kernel), List.mem_of_getElem? (i := 1123) (by decide +kernel), List.mem_of_getElem? (i := 1124) (by decide +kernel)⟩
def lw_privs_3 : List (MethodName × Nat) := [(⟨"FavoursGoOffModel", "full", "()I"⟩, 24), (⟨"FavoursGoOffModel", "day", "()I"⟩, 24), (⟨"FavoursGoOffModel", "isFavour", "(I)Z"⟩, 24), (⟨"FavoursGoOffModel", "valueOf", "(II)I"⟩, 24), (⟨"FavoursGoOffModel", "told0", "(II)I"⟩, 24), (⟨"FavoursGoOffModel", "valueNow", "(I)I"⟩, 24), (⟨"FavoursGoOffModel", "no", "(I)I"⟩, 24), (⟨"FavoursGoOffModel", "lose", "(I)V"⟩, 24), (⟨"FavoursGoOffModel", "owesTo", "(II)I"⟩, 24), (⟨"FavoursGoOffModel", "findRing", "()V"⟩, 24), (⟨"FavoursGoOffModel", "layRing", "(II)Z"⟩, 24), (⟨"FavoursGoOffModel", "leastOf", "(II)I"⟩, 24), (⟨"FavoursGoOffModel", "netOf", "(I)I"⟩, 24), (⟨"FavoursGoOffModel", "findMet", "()V"⟩, 24), (⟨"FavoursGoOffModel", "fits", "(I)Z"⟩, 24), (⟨"FavoursGoOffModel", "mayMeet", "(II)Z"⟩, 24)]
theorem lw_r3 : ∀ q ∈ lw_privs_3, lw_okq q := List.forall_mem_cons.mpr ⟨lw_p32, List.forall_mem_cons.mpr ⟨lw_p33, List.forall_mem_cons.mpr ⟨lw_p34, List.forall_mem_cons.mpr ⟨lw_p35, List.forall_mem_cons.mpr ⟨lw_p36, List.forall_mem_cons.mpr ⟨lw_p37, List.forall_mem_cons.mpr ⟨lw_p38, List.forall_mem_cons.mpr ⟨lw_p39, List.forall_mem_cons.mpr ⟨lw_p40, List.forall_mem_cons.mpr ⟨lw_p41, List.forall_mem_cons.mpr ⟨lw_p42, List.forall_mem_cons.mpr ⟨lw_p43, List.forall_mem_cons.mpr ⟨lw_p44, List.forall_mem_cons.mpr ⟨lw_p45, List.forall_mem_cons.mpr ⟨lw_p46, List.forall_mem_cons.mpr ⟨lw_p47, fun _ h => absurd h List.not_mem_nil⟩⟩⟩⟩⟩⟩⟩⟩⟩⟩⟩⟩⟩⟩⟩⟩
theorem lw_p48 : lw_okq (⟨"FavoursGoOffModel", "need0", "(II)I"⟩, 24) := ⟨⟨by decide +kernel, by decide +kernel⟩, List.mem_of_getElem? (i := 872) (by decide +kernel), List.mem_of_getElem? (i := 1127) (by decide +kernel), List.mem_of_getElem? (i := 1128) (by decide +kernel)⟩
theorem lw_p49 : lw_okq (⟨"FavoursGoOffModel", "look", "()V"⟩, 24) := ⟨⟨by decide +kernel, by decide +kernel⟩, List.mem_of_getElem? (i := 872) (by decide +kernel), List.mem_of_getElem? (i := 1131) (by decide +kernel), List.mem_of_getElem? (i := 1132) (by decide +kernel)⟩
theorem lw_p50 : lw_okq (⟨"FavoursGoOffModel", "toDo", "(II)I"⟩, 24) := ⟨⟨by decide +kernel, by decide +kernel⟩, List.mem_of_getElem? (i := 872) (by decide +kernel), List.mem_of_getElem? (i := 1143) (by decide +kernel), List.mem_of_getElem? (i := 1144) (by decide +kernel)⟩
theorem lw_p51 : lw_okq (⟨"FavoursGoOffModel", "doneFor", "(III)I"⟩, 24) := ⟨⟨by decide +kernel, by decide +kernel⟩, List.mem_of_getElem? (i := 872) (by decide +kernel), List.mem_of_getElem? (i := 1147) (by decide +kernel), List.mem_of_getElem? (i := 1148) (by decide +kernel)⟩
theorem lw_p52 : lw_okq (⟨"FavoursGoOffModel", "ratesBy", "(I)I"⟩, 24) := ⟨⟨by decide +kernel, by decide +kernel⟩, List.mem_of_getElem? (i := 872) (by decide +kernel), List.mem_of_getElem? (i := 1155) (by decide +kernel), List.mem_of_getElem? (i := 1156) (by decide +kernel)⟩
theorem lw_p53 : lw_okq (⟨"FavoursGoOffModel", "tells", "(JJ)I"⟩, 24) := ⟨⟨by decide +kernel, by decide +kernel⟩, List.mem_of_getElem? (i := 872) (by decide +kernel), List.mem_of_getElem? (i := 1192) (by decide +kernel), List.mem_of_getElem? (i := 1193) (by decide +kernel)⟩
theorem lw_p54 : lw_okq (⟨"FavoursGoOffModel", "lookAt", "(I)V"⟩, 24) := ⟨⟨by decide +kernel, by decide +kernel⟩, List.mem_of_getElem? (i := 872) (by decide +kernel), List.mem_of_getElem? (i := 1210) (by decide +kernel), List.mem_of_getElem? (i := 1211) (by decide +kernel)⟩
theorem lw_p55 : lw_okq (⟨"FavoursGoOffModel", "readsItem", "(Z)Z"⟩, 24) := ⟨⟨by decide +kernel, by decide +kernel⟩, List.mem_of_getElem? (i := 872) (by decide +kernel), List.mem_of_getElem? (i := 1224) (by decide +kernel), List.mem_of_getElem? (i := 1225) (by decide +kernel)⟩
theorem lw_p56 : lw_okq (⟨"FavoursGoOffModel", "isWord", "(IIIIII)Z"⟩, 24) := ⟨⟨by decide +kernel, by decide +kernel⟩, List.mem_of_getElem? (i := 872) (by decide +kernel), List.mem_of_getElem? (i := 1228) (by decide +kernel), List.mem_of_getElem? (i := 1229) (by decide +kernel)⟩
theorem lw_p57 : lw_okq (⟨"FavoursGoOffModel", "goOn", "()V"⟩, 24) := ⟨⟨by decide +kernel, by decide +kernel⟩, List.mem_of_getElem? (i := 872) (by decide +kernel), List.mem_of_getElem? (i := 1232) (by decide +kernel), List.mem_of_getElem? (i := 1233) (by decide +kernel)⟩
theorem lw_p58 : lw_okq (⟨"FavoursGoOffModel", "takes", "(III)Z"⟩, 24) := ⟨⟨by decide +kernel, by decide +kernel⟩, List.mem_of_getElem? (i := 872) (by decide +kernel), List.mem_of_getElem? (i := 1236) (by decide +kernel), List.mem_of_getElem? (i := 1237) (by decide +kernel)⟩
theorem lw_p59 : lw_okq (⟨"FavoursGoOffModel", "readsStrong", "()Z"⟩, 24) := ⟨⟨by decide +kernel, by decide +kernel⟩, List.mem_of_getElem? (i := 872) (by decide +kernel), List.mem_of_getElem? (i := 1240) (by decide +kernel), List.mem_of_getElem? (i := 1241) (by decide +kernel)⟩
theorem lw_p60 : lw_okq (⟨"FavoursGoOffModel", "readsFavour", "()Z"⟩, 24) := ⟨⟨by decide +kernel, by decide +kernel⟩, List.mem_of_getElem? (i := 872) (by decide +kernel), List.mem_of_getElem? (i := 1244) (by decide +kernel), List.mem_of_getElem? (i := 1245) (by decide +kernel)⟩
theorem lw_p61 : lw_okq (⟨"FavoursGoOffModel", "readsNeed", "()Z"⟩, 24) := ⟨⟨by decide +kernel, by decide +kernel⟩, List.mem_of_getElem? (i := 872) (by decide +kernel), List.mem_of_getElem? (i := 1248) (by decide +kernel), List.mem_of_getElem? (i := 1249) (by decide +kernel)⟩
theorem lw_p62 : lw_okq (⟨"FavoursGoOffModel", "counted", "(I)I"⟩, 24) := ⟨⟨by decide +kernel, by decide +kernel⟩, List.mem_of_getElem? (i := 872) (by decide +kernel), List.mem_of_getElem? (i := 1274) (by decide +kernel), List.mem_of_getElem? (i := 1275) (by decide +kernel)⟩
theorem lw_p63 : lw_okq (⟨"FavoursGoOffModel", "sums", "(JII)J"⟩, 24) := ⟨⟨by decide +kernel, by decide +kernel⟩, List.mem_of_getElem? (i := 872) (by decide +kernel), List.mem_of_getElem? (i := 1284) (by decide +kernel), List.mem_of_getElem? (i := 1285) (by decide +kernel)⟩
def lw_privs_4 : List (MethodName × Nat) := [(⟨"FavoursGoOffModel", "need0", "(II)I"⟩, 24), (⟨"FavoursGoOffModel", "look", "()V"⟩, 24), (⟨"FavoursGoOffModel", "toDo", "(II)I"⟩, 24), (⟨"FavoursGoOffModel", "doneFor", "(III)I"⟩, 24), (⟨"FavoursGoOffModel", "ratesBy", "(I)I"⟩, 24), (⟨"FavoursGoOffModel", "tells", "(JJ)I"⟩, 24), (⟨"FavoursGoOffModel", "lookAt", "(I)V"⟩, 24), (⟨"FavoursGoOffModel", "readsItem", "(Z)Z"⟩, 24), (⟨"FavoursGoOffModel", "isWord", "(IIIIII)Z"⟩, 24), (⟨"FavoursGoOffModel", "goOn", "()V"⟩, 24), (⟨"FavoursGoOffModel", "takes", "(III)Z"⟩, 24), (⟨"FavoursGoOffModel", "readsStrong", "()Z"⟩, 24), (⟨"FavoursGoOffModel", "readsFavour", "()Z"⟩, 24), (⟨"FavoursGoOffModel", "readsNeed", "()Z"⟩, 24), (⟨"FavoursGoOffModel", "counted", "(I)I"⟩, 24), (⟨"FavoursGoOffModel", "sums", "(JII)J"⟩, 24)]
theorem lw_r4 : ∀ q ∈ lw_privs_4, lw_okq q := List.forall_mem_cons.mpr ⟨lw_p48, List.forall_mem_cons.mpr ⟨lw_p49, List.forall_mem_cons.mpr ⟨lw_p50, List.forall_mem_cons.mpr ⟨lw_p51, List.forall_mem_cons.mpr ⟨lw_p52, List.forall_mem_cons.mpr ⟨lw_p53, List.forall_mem_cons.mpr ⟨lw_p54, List.forall_mem_cons.mpr ⟨lw_p55, List.forall_mem_cons.mpr ⟨lw_p56, List.forall_mem_cons.mpr ⟨lw_p57, List.forall_mem_cons.mpr ⟨lw_p58, List.forall_mem_cons.mpr ⟨lw_p59, List.forall_mem_cons.mpr ⟨lw_p60, List.forall_mem_cons.mpr ⟨lw_p61, List.forall_mem_cons.mpr ⟨lw_p62, List.forall_mem_cons.mpr ⟨lw_p63, fun _ h => absurd h List.not_mem_nil⟩⟩⟩⟩⟩⟩⟩⟩⟩⟩⟩⟩⟩⟩⟩⟩
def lw_privs : List (MethodName × Nat) := lw_privs_1 ++ (lw_privs_2 ++ (lw_privs_3 ++ (lw_privs_4)))
def lw_tbl : List Cond := k2_sels lw_privs ++ tables_1
theorem lw_privs_ok : ∀ q ∈ lw_privs, lw_okq q := by
  show ∀ q ∈ lw_privs_1 ++ (lw_privs_2 ++ (lw_privs_3 ++ (lw_privs_4))), lw_okq q
  exact List.forall_mem_append.mpr ⟨lw_r1, List.forall_mem_append.mpr ⟨lw_r2, List.forall_mem_append.mpr ⟨lw_r3, lw_r4⟩⟩⟩

def RX0 : String := "FavoursGoOff$Circle"
def TX0 : u_T := fun k => match k with
  | 0 => ("FavoursGoOff$Circle", "members", "[I", true)
  | _ => ("FavoursGoOff$Circle", "length", "I", false)
def tyX0 : Nat → FieldType := fun k => match k with
  | 0 => .array .int
  | _ => .int
abbrev wsX00 : List Cond := u_ws RX0 TX0 2
theorem nmX0 : ∀ a, a < 2 → ∀ b, b < 2 → a ≠ b → (TX0 a).2.1 ≠ (TX0 b).2.1 := by decide +kernel
theorem tyX0_ok : ∀ k, k < 2 → parseFieldDescriptor (TX0 k).2.2.1 = some (tyX0 k) := by decide +kernel
abbrev cX0_init : ByteArray := prog_2_method_1_code
def yX0_init : MethodName := ⟨RX0, "<init>", "()V"⟩
abbrev cX0_find : ByteArray := prog_2_method_2_code
def yX0_find : MethodName := ⟨RX0, "find", "(LFavoursGoOff$Debts;)V"⟩
abbrev cX0_member : ByteArray := prog_2_method_3_code
def yX0_member : MethodName := ⟨RX0, "member", "(I)I"⟩
abbrev cX0_closes : ByteArray := prog_2_method_4_code
def yX0_closes : MethodName := ⟨RX0, "closes", "(LFavoursGoOff$Circle;LFavoursGoOff$Debts;II)Z"⟩
abbrev cX0_holds : ByteArray := prog_2_method_5_code
def yX0_holds : MethodName := ⟨RX0, "holds", "(II)Z"⟩
def RX1 : String := "FavoursGoOff$Debts"
def TX1 : u_T := fun k => match k with
  | 0 => ("FavoursGoOff$Debts", "sums", "LFavoursGoOff$Table;", true)
  | 1 => ("FavoursGoOff$Debts", "nets", "[I", true)
  | 2 => ("FavoursGoOff$Debts", "groups", "[I", true)
  | 3 => ("FavoursGoOff$Debts", "people", "I", false)
  | 4 => ("FavoursGoOff$Debts", "fallen", "I", false)
  | _ => ("FavoursGoOff$Debts", "rounds", "I", false)
def tyX1 : Nat → FieldType := fun k => match k with
  | 0 => .object "FavoursGoOff$Table"
  | 1 => .array .int
  | 2 => .array .int
  | 3 => .int
  | 4 => .int
  | _ => .int
abbrev wsX10 : List Cond := u_ws RX1 TX1 6
theorem nmX1 : ∀ a, a < 6 → ∀ b, b < 6 → a ≠ b → (TX1 a).2.1 ≠ (TX1 b).2.1 := by decide +kernel
theorem tyX1_ok : ∀ k, k < 6 → parseFieldDescriptor (TX1 k).2.2.1 = some (tyX1 k) := by decide +kernel
abbrev cX1_init : ByteArray := prog_3_method_1_code
def yX1_init : MethodName := ⟨RX1, "<init>", "()V"⟩
abbrev cX1_addUp : ByteArray := prog_3_method_2_code
def yX1_addUp : MethodName := ⟨RX1, "addUp", "(LFavoursGoOff$Street;I)V"⟩
abbrev cX1_between : ByteArray := prog_3_method_3_code
def yX1_between : MethodName := ⟨RX1, "between", "(II)I"⟩
abbrev cX1_balance : ByteArray := prog_3_method_4_code
def yX1_balance : MethodName := ⟨RX1, "balance", "(I)I"⟩
abbrev cX1_fewestPayments : ByteArray := prog_3_method_5_code
def yX1_fewestPayments : MethodName := ⟨RX1, "fewestPayments", "()I"⟩
abbrev cX1_mostGroups : ByteArray := prog_3_method_6_code
def yX1_mostGroups : MethodName := ⟨RX1, "mostGroups", "(I)I"⟩
abbrev cX1_callAllIn : ByteArray := prog_3_method_7_code
def yX1_callAllIn : MethodName := ⟨RX1, "callAllIn", "(LFavoursGoOff$Table;)V"⟩
abbrev cX1_dueFrom : ByteArray := prog_3_method_8_code
def yX1_dueFrom : MethodName := ⟨RX1, "dueFrom", "(I)I"⟩
abbrev cX1_doneFor : ByteArray := prog_3_method_9_code
def yX1_doneFor : MethodName := ⟨RX1, "doneFor", "(II)I"⟩
def RX2 : String := "FavoursGoOff$Fraction"
def TX2 : u_T := fun k => match k with
  | 0 => ("FavoursGoOff$Fraction", "above", "J", false)
  | _ => ("FavoursGoOff$Fraction", "below", "J", false)
def tyX2 : Nat → FieldType := fun k => match k with
  | 0 => .long
  | _ => .long
abbrev wsX20 : List Cond := u_ws RX2 TX2 2
theorem nmX2 : ∀ a, a < 2 → ∀ b, b < 2 → a ≠ b → (TX2 a).2.1 ≠ (TX2 b).2.1 := by decide +kernel
theorem tyX2_ok : ∀ k, k < 2 → parseFieldDescriptor (TX2 k).2.2.1 = some (tyX2 k) := by decide +kernel
abbrev cX2_init : ByteArray := prog_4_method_1_code
def yX2_init : MethodName := ⟨RX2, "<init>", "()V"⟩
abbrev cX2_become : ByteArray := prog_4_method_2_code
def yX2_become : MethodName := ⟨RX2, "become", "(JJ)V"⟩
abbrev cX2_commonDivisor : ByteArray := prog_4_method_3_code
def yX2_commonDivisor : MethodName := ⟨RX2, "commonDivisor", "(JJ)J"⟩
def RX3 : String := "FavoursGoOff$History"
def TX3 : u_T := fun k => match k with
  | 0 => ("FavoursGoOff$History", "now", "LFavoursGoOff$Street;", true)
  | 1 => ("FavoursGoOff$History", "last", "LFavoursGoOff$Street;", true)
  | 2 => ("FavoursGoOff$History", "before", "LFavoursGoOff$Street;", true)
  | 3 => ("FavoursGoOff$History", "nights", "I", false)
  | _ => ("FavoursGoOff$History", "isKept", "Z", false)
def tyX3 : Nat → FieldType := fun k => match k with
  | 0 => .object "FavoursGoOff$Street"
  | 1 => .object "FavoursGoOff$Street"
  | 2 => .object "FavoursGoOff$Street"
  | 3 => .int
  | _ => .boolean
abbrev wsX30 : List Cond := u_ws RX3 TX3 5
theorem nmX3 : ∀ a, a < 5 → ∀ b, b < 5 → a ≠ b → (TX3 a).2.1 ≠ (TX3 b).2.1 := by decide +kernel
theorem tyX3_ok : ∀ k, k < 5 → parseFieldDescriptor (TX3 k).2.2.1 = some (tyX3 k) := by decide +kernel
abbrev cX3_init : ByteArray := prog_5_method_1_code
def yX3_init : MethodName := ⟨RX3, "<init>", "()V"⟩
abbrev cX3_keepNight : ByteArray := prog_5_method_2_code
def yX3_keepNight : MethodName := ⟨RX3, "keepNight", "()V"⟩
abbrev cX3_goBack : ByteArray := prog_5_method_3_code
def yX3_goBack : MethodName := ⟨RX3, "goBack", "()V"⟩
abbrev cX3_copyFrom : ByteArray := prog_5_method_4_code
def yX3_copyFrom : MethodName := ⟨RX3, "copyFrom", "(LFavoursGoOff$History;)V"⟩
def RX4 : String := "FavoursGoOff$Plan"
def TX4 : u_T := fun k => match k with
  | 0 => ("FavoursGoOff$Plan", "stale", "Z", false)
  | 1 => ("FavoursGoOff$Plan", "mostMet", "I", false)
  | 2 => ("FavoursGoOff$Plan", "leastSpent", "I", false)
  | 3 => ("FavoursGoOff$Plan", "needs", "I", false)
  | 4 => ("FavoursGoOff$Plan", "favours", "I", false)
  | 5 => ("FavoursGoOff$Plan", "values", "LFavoursGoOff$Table;", true)
  | 6 => ("FavoursGoOff$Plan", "rooms", "LFavoursGoOff$Table;", true)
  | 7 => ("FavoursGoOff$Plan", "dayRows", "[I", true)
  | 8 => ("FavoursGoOff$Plan", "doers", "[I", true)
  | 9 => ("FavoursGoOff$Plan", "hopes", "[I", true)
  | 10 => ("FavoursGoOff$Plan", "costs", "[I", true)
  | 11 => ("FavoursGoOff$Plan", "tried", "[I", true)
  | _ => ("FavoursGoOff$Plan", "best", "[I", true)
def tyX4 : Nat → FieldType := fun k => match k with
  | 0 => .boolean
  | 1 => .int
  | 2 => .int
  | 3 => .int
  | 4 => .int
  | 5 => .object "FavoursGoOff$Table"
  | 6 => .object "FavoursGoOff$Table"
  | 7 => .array .int
  | 8 => .array .int
  | 9 => .array .int
  | 10 => .array .int
  | 11 => .array .int
  | _ => .array .int
abbrev wsX40 : List Cond := u_ws RX4 TX4 13
theorem nmX4 : ∀ a, a < 13 → ∀ b, b < 13 → a ≠ b → (TX4 a).2.1 ≠ (TX4 b).2.1 := by decide +kernel
theorem tyX4_ok : ∀ k, k < 13 → parseFieldDescriptor (TX4 k).2.2.1 = some (tyX4 k) := by decide +kernel
abbrev cX4_init : ByteArray := prog_6_method_1_code
def yX4_init : MethodName := ⟨RX4, "<init>", "()V"⟩
abbrev cX4_make : ByteArray := prog_6_method_2_code
def yX4_make : MethodName := ⟨RX4, "make", "(LFavoursGoOff$Street;)V"⟩
abbrev cX4_favourOf : ByteArray := prog_6_method_3_code
def yX4_favourOf : MethodName := ⟨RX4, "favourOf", "(I)I"⟩
abbrev cX4_layOut : ByteArray := prog_6_method_4_code
def yX4_layOut : MethodName := ⟨RX4, "layOut", "(LFavoursGoOff$Street;I)V"⟩
abbrev cX4_lookAhead : ByteArray := prog_6_method_5_code
def yX4_lookAhead : MethodName := ⟨RX4, "lookAhead", "()V"⟩
abbrev cX4_search : ByteArray := prog_6_method_6_code
def yX4_search : MethodName := ⟨RX4, "search", "(LFavoursGoOff$Plan;IIII)V"⟩
abbrev cX4_isNoBetter : ByteArray := prog_6_method_7_code
def yX4_isNoBetter : MethodName := ⟨RX4, "isNoBetter", "(II)Z"⟩
abbrev cX4_keepIfBetter : ByteArray := prog_6_method_8_code
def yX4_keepIfBetter : MethodName := ⟨RX4, "keepIfBetter", "(II)V"⟩
def RX5 : String := "FavoursGoOff$Reader"
def TX5 : u_T := fun k => match k with
  | 0 => ("FavoursGoOff$Reader", "text", "LFavoursGoOff$Text;", true)
  | 1 => ("FavoursGoOff$Reader", "draft", "LFavoursGoOff$Street;", true)
  | 2 => ("FavoursGoOff$Reader", "fault", "I", false)
  | 3 => ("FavoursGoOff$Reader", "token", "I", false)
  | 4 => ("FavoursGoOff$Reader", "start", "I", false)
  | 5 => ("FavoursGoOff$Reader", "next", "I", false)
  | 6 => ("FavoursGoOff$Reader", "number", "I", false)
  | _ => ("FavoursGoOff$Reader", "lastPerson", "I", false)
def tyX5 : Nat → FieldType := fun k => match k with
  | 0 => .object "FavoursGoOff$Text"
  | 1 => .object "FavoursGoOff$Street"
  | 2 => .int
  | 3 => .int
  | 4 => .int
  | 5 => .int
  | 6 => .int
  | _ => .int
abbrev wsX50 : List Cond := u_ws RX5 TX5 8
theorem nmX5 : ∀ a, a < 8 → ∀ b, b < 8 → a ≠ b → (TX5 a).2.1 ≠ (TX5 b).2.1 := by decide +kernel
theorem tyX5_ok : ∀ k, k < 8 → parseFieldDescriptor (TX5 k).2.2.1 = some (tyX5 k) := by decide +kernel
abbrev cX5_init : ByteArray := prog_7_method_1_code
def yX5_init : MethodName := ⟨RX5, "<init>", "()V"⟩
abbrev cX5_readStreet : ByteArray := prog_7_method_2_code
def yX5_readStreet : MethodName := ⟨RX5, "readStreet", "()I"⟩
abbrev cX5_readPeople : ByteArray := prog_7_method_3_code
def yX5_readPeople : MethodName := ⟨RX5, "readPeople", "()V"⟩
abbrev cX5_readItem : ByteArray := prog_7_method_4_code
def yX5_readItem : MethodName := ⟨RX5, "readItem", "()V"⟩
abbrev cX5_readStrong : ByteArray := prog_7_method_5_code
def yX5_readStrong : MethodName := ⟨RX5, "readStrong", "()V"⟩
abbrev cX5_readFavour : ByteArray := prog_7_method_6_code
def yX5_readFavour : MethodName := ⟨RX5, "readFavour", "()V"⟩
abbrev cX5_readNeed : ByteArray := prog_7_method_7_code
def yX5_readNeed : MethodName := ⟨RX5, "readNeed", "()V"⟩
abbrev cX5_refuse : ByteArray := prog_7_method_8_code
def yX5_refuse : MethodName := ⟨RX5, "refuse", "(I)V"⟩
abbrev cX5_takeNumber : ByteArray := prog_7_method_9_code
def yX5_takeNumber : MethodName := ⟨RX5, "takeNumber", "(II)I"⟩
abbrev cX5_takeStop : ByteArray := prog_7_method_10_code
def yX5_takeStop : MethodName := ⟨RX5, "takeStop", "()V"⟩
abbrev cX5_fail : ByteArray := prog_7_method_11_code
def yX5_fail : MethodName := ⟨RX5, "fail", "()V"⟩
abbrev cX5_step : ByteArray := prog_7_method_12_code
def yX5_step : MethodName := ⟨RX5, "step", "()V"⟩
abbrev cX5_endOfRun : ByteArray := prog_7_method_13_code
def yX5_endOfRun : MethodName := ⟨RX5, "endOfRun", "(II)I"⟩
abbrev cX5_takeFigures : ByteArray := prog_7_method_14_code
def yX5_takeFigures : MethodName := ⟨RX5, "takeFigures", "()V"⟩
abbrev cX5_isWord : ByteArray := prog_7_method_15_code
def yX5_isWord : MethodName := ⟨RX5, "isWord", "(Ljava/lang/String;)Z"⟩
def RX6 : String := "FavoursGoOff$Street"
def TX6 : u_T := fun k => match k with
  | 0 => ("FavoursGoOff$Street", "people", "LFavoursGoOff$Table;", true)
  | 1 => ("FavoursGoOff$Street", "favours", "LFavoursGoOff$Table;", true)
  | 2 => ("FavoursGoOff$Street", "needs", "LFavoursGoOff$Table;", true)
  | 3 => ("FavoursGoOff$Street", "passes", "LFavoursGoOff$Table;", true)
  | 4 => ("FavoursGoOff$Street", "rates", "LFavoursGoOff$Table;", true)
  | _ => ("FavoursGoOff$Street", "day", "I", false)
def tyX6 : Nat → FieldType := fun k => match k with
  | 0 => .object "FavoursGoOff$Table"
  | 1 => .object "FavoursGoOff$Table"
  | 2 => .object "FavoursGoOff$Table"
  | 3 => .object "FavoursGoOff$Table"
  | 4 => .object "FavoursGoOff$Table"
  | _ => .int
abbrev wsX60 : List Cond := u_ws RX6 TX6 6
theorem nmX6 : ∀ a, a < 6 → ∀ b, b < 6 → a ≠ b → (TX6 a).2.1 ≠ (TX6 b).2.1 := by decide +kernel
theorem tyX6_ok : ∀ k, k < 6 → parseFieldDescriptor (TX6 k).2.2.1 = some (tyX6 k) := by decide +kernel
abbrev cX6_init : ByteArray := prog_8_method_1_code
def yX6_init : MethodName := ⟨RX6, "<init>", "()V"⟩
abbrev cX6_open : ByteArray := prog_8_method_2_code
def yX6_open : MethodName := ⟨RX6, "open", "(I)V"⟩
abbrev cX6_copyFrom : ByteArray := prog_8_method_3_code
def yX6_copyFrom : MethodName := ⟨RX6, "copyFrom", "(LFavoursGoOff$Street;)V"⟩
abbrev cX6_takeAllButRates : ByteArray := prog_8_method_4_code
def yX6_takeAllButRates : MethodName := ⟨RX6, "takeAllButRates", "(LFavoursGoOff$Street;)V"⟩
abbrev cX6_addFavour : ByteArray := prog_8_method_5_code
def yX6_addFavour : MethodName := ⟨RX6, "addFavour", "(IIIIII)I"⟩
abbrev cX6_addNeed : ByteArray := prog_8_method_6_code
def yX6_addNeed : MethodName := ⟨RX6, "addNeed", "(IIII)I"⟩
abbrev cX6_addPass : ByteArray := prog_8_method_7_code
def yX6_addPass : MethodName := ⟨RX6, "addPass", "(III)I"⟩
abbrev cX6_wake : ByteArray := prog_8_method_8_code
def yX6_wake : MethodName := ⟨RX6, "wake", "()V"⟩
abbrev cX6_valueNow : ByteArray := prog_8_method_9_code
def yX6_valueNow : MethodName := ⟨RX6, "valueNow", "(I)I"⟩
abbrev cX6_valueOn : ByteArray := prog_8_method_10_code
def yX6_valueOn : MethodName := ⟨RX6, "valueOn", "(II)I"⟩
abbrev cX6_areAlike : ByteArray := prog_8_method_11_code
def yX6_areAlike : MethodName := ⟨RX6, "areAlike", "(II)Z"⟩
abbrev cX6_merge : ByteArray := prog_8_method_12_code
def yX6_merge : MethodName := ⟨RX6, "merge", "(II)I"⟩
abbrev cX6_cheapest : ByteArray := prog_8_method_13_code
def yX6_cheapest : MethodName := ⟨RX6, "cheapest", "(II)I"⟩
abbrev cX6_holderAhead : ByteArray := prog_8_method_14_code
def yX6_holderAhead : MethodName := ⟨RX6, "holderAhead", "(I)I"⟩
abbrev cX6_rateNow : ByteArray := prog_8_method_15_code
def yX6_rateNow : MethodName := ⟨RX6, "rateNow", "(I)I"⟩
abbrev cX6_setRate : ByteArray := prog_8_method_16_code
def yX6_setRate : MethodName := ⟨RX6, "setRate", "(II)V"⟩
abbrev cX6_drift : ByteArray := prog_8_method_17_code
def yX6_drift : MethodName := ⟨RX6, "drift", "(I)I"⟩
def RX7 : String := "FavoursGoOff$Table"
def TX7 : u_T := fun k => match k with
  | 0 => ("FavoursGoOff$Table", "width", "I", true)
  | 1 => ("FavoursGoOff$Table", "cells", "[I", true)
  | _ => ("FavoursGoOff$Table", "rows", "I", false)
def tyX7 : Nat → FieldType := fun k => match k with
  | 0 => .int
  | 1 => .array .int
  | _ => .int
abbrev wsX70 : List Cond := u_ws RX7 TX7 3
theorem nmX7 : ∀ a, a < 3 → ∀ b, b < 3 → a ≠ b → (TX7 a).2.1 ≠ (TX7 b).2.1 := by decide +kernel
theorem tyX7_ok : ∀ k, k < 3 → parseFieldDescriptor (TX7 k).2.2.1 = some (tyX7 k) := by decide +kernel
abbrev cX7_init : ByteArray := prog_9_method_1_code
def yX7_init : MethodName := ⟨RX7, "<init>", "(II)V"⟩
abbrev cX7_has : ByteArray := prog_9_method_2_code
def yX7_has : MethodName := ⟨RX7, "has", "(I)Z"⟩
abbrev cX7_isFull : ByteArray := prog_9_method_3_code
def yX7_isFull : MethodName := ⟨RX7, "isFull", "()Z"⟩
abbrev cX7_at : ByteArray := prog_9_method_4_code
def yX7_at : MethodName := ⟨RX7, "at", "(II)I"⟩
abbrev cX7_put : ByteArray := prog_9_method_5_code
def yX7_put : MethodName := ⟨RX7, "put", "(III)V"⟩
abbrev cX7_more : ByteArray := prog_9_method_6_code
def yX7_more : MethodName := ⟨RX7, "more", "(III)V"⟩
abbrev cX7_fillRow : ByteArray := prog_9_method_7_code
def yX7_fillRow : MethodName := ⟨RX7, "fillRow", "(II)V"⟩
abbrev cX7_add : ByteArray := prog_9_method_8_code
def yX7_add : MethodName := ⟨RX7, "add", "()I"⟩
abbrev cX7_empty : ByteArray := prog_9_method_9_code
def yX7_empty : MethodName := ⟨RX7, "empty", "()I"⟩
abbrev cX7_copyFrom : ByteArray := prog_9_method_10_code
def yX7_copyFrom : MethodName := ⟨RX7, "copyFrom", "(LFavoursGoOff$Table;)V"⟩
abbrev cX7_mixedInto : ByteArray := prog_9_method_11_code
def yX7_mixedInto : MethodName := ⟨RX7, "mixedInto", "(J)J"⟩
abbrev cX7_placeOf : ByteArray := prog_9_method_12_code
def yX7_placeOf : MethodName := ⟨RX7, "placeOf", "(II)I"⟩
def RX8 : String := "FavoursGoOff$Text"
def TX8 : u_T := fun k => match k with
  | 0 => ("FavoursGoOff$Text", "bytes", "[I", true)
  | _ => ("FavoursGoOff$Text", "length", "I", false)
def tyX8 : Nat → FieldType := fun k => match k with
  | 0 => .array .int
  | _ => .int
abbrev wsX80 : List Cond := u_ws RX8 TX8 2
theorem nmX8 : ∀ a, a < 2 → ∀ b, b < 2 → a ≠ b → (TX8 a).2.1 ≠ (TX8 b).2.1 := by decide +kernel
theorem tyX8_ok : ∀ k, k < 2 → parseFieldDescriptor (TX8 k).2.2.1 = some (tyX8 k) := by decide +kernel
abbrev cX8_init : ByteArray := prog_10_method_1_code
def yX8_init : MethodName := ⟨RX8, "<init>", "()V"⟩
abbrev cX8_add : ByteArray := prog_10_method_2_code
def yX8_add : MethodName := ⟨RX8, "add", "(I)V"⟩
abbrev cX8_at : ByteArray := prog_10_method_3_code
def yX8_at : MethodName := ⟨RX8, "at", "(I)I"⟩
def RX9 : String := "FavoursGoOff"
def TX9 : u_T := fun k => match k with
  | 0 => ("FavoursGoOff", "life", "LFavoursGoOff$History;", true)
  | 1 => ("FavoursGoOff", "imageZero", "LFavoursGoOff$History;", true)
  | 2 => ("FavoursGoOff", "imageOne", "LFavoursGoOff$History;", true)
  | 3 => ("FavoursGoOff", "street", "LFavoursGoOff$Street;", true)
  | 4 => ("FavoursGoOff", "reader", "LFavoursGoOff$Reader;", true)
  | 5 => ("FavoursGoOff", "text", "LFavoursGoOff$Text;", true)
  | 6 => ("FavoursGoOff", "debts", "LFavoursGoOff$Debts;", true)
  | 7 => ("FavoursGoOff", "circle", "LFavoursGoOff$Circle;", true)
  | 8 => ("FavoursGoOff", "plan", "LFavoursGoOff$Plan;", true)
  | 9 => ("FavoursGoOff", "fraction", "LFavoursGoOff$Fraction;", true)
  | 10 => ("FavoursGoOff", "refusedBad", "I", false)
  | 11 => ("FavoursGoOff", "refusedNo", "I", false)
  | _ => ("FavoursGoOff", "refusedFull", "I", false)
def tyX9 : Nat → FieldType := fun k => match k with
  | 0 => .object "FavoursGoOff$History"
  | 1 => .object "FavoursGoOff$History"
  | 2 => .object "FavoursGoOff$History"
  | 3 => .object "FavoursGoOff$Street"
  | 4 => .object "FavoursGoOff$Reader"
  | 5 => .object "FavoursGoOff$Text"
  | 6 => .object "FavoursGoOff$Debts"
  | 7 => .object "FavoursGoOff$Circle"
  | 8 => .object "FavoursGoOff$Plan"
  | 9 => .object "FavoursGoOff$Fraction"
  | 10 => .int
  | 11 => .int
  | _ => .int
abbrev wsX90 : List Cond := u_ws RX9 TX9 13
theorem nmX9 : ∀ a, a < 13 → ∀ b, b < 13 → a ≠ b → (TX9 a).2.1 ≠ (TX9 b).2.1 := by decide +kernel
theorem tyX9_ok : ∀ k, k < 13 → parseFieldDescriptor (TX9 k).2.2.1 = some (tyX9 k) := by decide +kernel
abbrev cX9_init : ByteArray := prog_1_method_1_code
def yX9_init : MethodName := ⟨RX9, "<init>", "()V"⟩
abbrev cX9_people : ByteArray := prog_1_method_2_code
def yX9_people : MethodName := ⟨RX9, "people", "(I)I"⟩
abbrev cX9_strong : ByteArray := prog_1_method_3_code
def yX9_strong : MethodName := ⟨RX9, "strong", "(II)I"⟩
abbrev cX9_favour : ByteArray := prog_1_method_4_code
def yX9_favour : MethodName := ⟨RX9, "favour", "(IIIIII)I"⟩
abbrev cX9_need : ByteArray := prog_1_method_5_code
def yX9_need : MethodName := ⟨RX9, "need", "(IIII)I"⟩
abbrev cX9_contented : ByteArray := prog_1_method_6_code
def yX9_contented : MethodName := ⟨RX9, "contented", "()I"⟩
abbrev cX9_type : ByteArray := prog_1_method_7_code
def yX9_type : MethodName := ⟨RX9, "type", "(JI)I"⟩
abbrev cX9_clear : ByteArray := prog_1_method_8_code
def yX9_clear : MethodName := ⟨RX9, "clear", "()I"⟩
abbrev cX9_read : ByteArray := prog_1_method_9_code
def yX9_read : MethodName := ⟨RX9, "read", "()I"⟩
abbrev cX9_value : ByteArray := prog_1_method_10_code
def yX9_value : MethodName := ⟨RX9, "value", "(II)I"⟩
abbrev cX9_of : ByteArray := prog_1_method_11_code
def yX9_of : MethodName := ⟨RX9, "of", "(I)I"⟩
abbrev cX9_pass : ByteArray := prog_1_method_12_code
def yX9_pass : MethodName := ⟨RX9, "pass", "(II)I"⟩
abbrev cX9_join : ByteArray := prog_1_method_13_code
def yX9_join : MethodName := ⟨RX9, "join", "(II)I"⟩
abbrev cX9_ask : ByteArray := prog_1_method_14_code
def yX9_ask : MethodName := ⟨RX9, "ask", "(I)I"⟩
abbrev cX9_night : ByteArray := prog_1_method_15_code
def yX9_night : MethodName := ⟨RX9, "night", "()I"⟩
abbrev cX9_undo : ByteArray := prog_1_method_16_code
def yX9_undo : MethodName := ⟨RX9, "undo", "()I"⟩
abbrev cX9_owes : ByteArray := prog_1_method_17_code
def yX9_owes : MethodName := ⟨RX9, "owes", "(II)I"⟩
abbrev cX9_ring : ByteArray := prog_1_method_18_code
def yX9_ring : MethodName := ⟨RX9, "ring", "(I)I"⟩
abbrev cX9_cancel : ByteArray := prog_1_method_19_code
def yX9_cancel : MethodName := ⟨RX9, "cancel", "()I"⟩
abbrev cX9_net : ByteArray := prog_1_method_20_code
def yX9_net : MethodName := ⟨RX9, "net", "(I)I"⟩
abbrev cX9_fewest : ByteArray := prog_1_method_21_code
def yX9_fewest : MethodName := ⟨RX9, "fewest", "()I"⟩
abbrev cX9_met : ByteArray := prog_1_method_22_code
def yX9_met : MethodName := ⟨RX9, "met", "(I)I"⟩
abbrev cX9_plan : ByteArray := prog_1_method_23_code
def yX9_plan : MethodName := ⟨RX9, "plan", "(I)I"⟩
abbrev cX9_fire : ByteArray := prog_1_method_24_code
def yX9_fire : MethodName := ⟨RX9, "fire", "(II)I"⟩
abbrev cX9_rate : ByteArray := prog_1_method_25_code
def yX9_rate : MethodName := ⟨RX9, "rate", "(II)I"⟩
abbrev cX9_set : ByteArray := prog_1_method_26_code
def yX9_set : MethodName := ⟨RX9, "set", "(II)I"⟩
abbrev cX9_settles : ByteArray := prog_1_method_27_code
def yX9_settles : MethodName := ⟨RX9, "settles", "()I"⟩
abbrev cX9_told : ByteArray := prog_1_method_28_code
def yX9_told : MethodName := ⟨RX9, "told", "(III)I"⟩
abbrev cX9_forged : ByteArray := prog_1_method_29_code
def yX9_forged : MethodName := ⟨RX9, "forged", "()I"⟩
abbrev cX9_forget : ByteArray := prog_1_method_30_code
def yX9_forget : MethodName := ⟨RX9, "forget", "()I"⟩
abbrev cX9_goesOff : ByteArray := prog_1_method_31_code
def yX9_goesOff : MethodName := ⟨RX9, "goesOff", "(I)I"⟩
abbrev cX9_kept : ByteArray := prog_1_method_32_code
def yX9_kept : MethodName := ⟨RX9, "kept", "(II)I"⟩
abbrev cX9_part : ByteArray := prog_1_method_33_code
def yX9_part : MethodName := ⟨RX9, "part", "(I)J"⟩
abbrev cX9_image : ByteArray := prog_1_method_34_code
def yX9_image : MethodName := ⟨RX9, "image", "(I)I"⟩
abbrev cX9_from : ByteArray := prog_1_method_35_code
def yX9_from : MethodName := ⟨RX9, "from", "(I)I"⟩
abbrev cX9_status : ByteArray := prog_1_method_36_code
def yX9_status : MethodName := ⟨RX9, "status", "(I)I"⟩
abbrev cX9_count : ByteArray := prog_1_method_37_code
def yX9_count : MethodName := ⟨RX9, "count", "(I)I"⟩
abbrev cX9_digest : ByteArray := prog_1_method_38_code
def yX9_digest : MethodName := ⟨RX9, "digest", "()J"⟩
abbrev cX9_howMany : ByteArray := prog_1_method_39_code
def yX9_howMany : MethodName := ⟨RX9, "howMany", "(I)I"⟩
abbrev cX9_imageAt : ByteArray := prog_1_method_40_code
def yX9_imageAt : MethodName := ⟨RX9, "imageAt", "(I)LFavoursGoOff$History;"⟩
abbrev cX9_findRing : ByteArray := prog_1_method_41_code
def yX9_findRing : MethodName := ⟨RX9, "findRing", "()V"⟩
abbrev cX9_bad : ByteArray := prog_1_method_42_code
def yX9_bad : MethodName := ⟨RX9, "bad", "(I)I"⟩
abbrev cX9_no : ByteArray := prog_1_method_43_code
def yX9_no : MethodName := ⟨RX9, "no", "(I)I"⟩
abbrev cX9_full : ByteArray := prog_1_method_44_code
def yX9_full : MethodName := ⟨RX9, "full", "()I"⟩
abbrev cX9_isDayToCome : ByteArray := prog_1_method_45_code
def yX9_isDayToCome : MethodName := ⟨RX9, "isDayToCome", "(I)Z"⟩
abbrev cX9_isDay : ByteArray := prog_1_method_46_code
def yX9_isDay : MethodName := ⟨RX9, "isDay", "(I)Z"⟩
abbrev cX9_isThing : ByteArray := prog_1_method_47_code
def yX9_isThing : MethodName := ⟨RX9, "isThing", "(I)Z"⟩
abbrev cX9_isWithin : ByteArray := prog_1_method_48_code
def yX9_isWithin : MethodName := ⟨RX9, "isWithin", "(III)Z"⟩
abbrev cX9_heldRate : ByteArray := prog_1_method_49_code
def yX9_heldRate : MethodName := ⟨RX9, "heldRate", "(I)I"⟩
abbrev cX9_lastChange : ByteArray := prog_1_method_50_code
def yX9_lastChange : MethodName := ⟨RX9, "lastChange", "(II)I"⟩
abbrev cX9_power : ByteArray := prog_1_method_51_code
def yX9_power : MethodName := ⟨RX9, "power", "(II)J"⟩
abbrev cX9_choices : ByteArray := prog_1_method_52_code
def yX9_choices : MethodName := ⟨RX9, "choices", "(II)J"⟩
def RX10 : String := "FavoursGoOffModel"
def TX10 : u_T := fun k => match k with
  | 0 => ("FavoursGoOffModel", "now", "[I", true)
  | 1 => ("FavoursGoOffModel", "stored", "[I", true)
  | 2 => ("FavoursGoOffModel", "isKept", "[Z", true)
  | 3 => ("FavoursGoOffModel", "refused", "[I", true)
  | 4 => ("FavoursGoOffModel", "above", "J", false)
  | 5 => ("FavoursGoOffModel", "below", "J", false)
  | 6 => ("FavoursGoOffModel", "row", "[I", true)
  | 7 => ("FavoursGoOffModel", "ringLong", "I", false)
  | 8 => ("FavoursGoOffModel", "netsOf", "[I", true)
  | 9 => ("FavoursGoOffModel", "mostSets", "[I", true)
  | 10 => ("FavoursGoOffModel", "choice", "[I", true)
  | 11 => ("FavoursGoOffModel", "bestChoice", "[I", true)
  | 12 => ("FavoursGoOffModel", "bestMet", "I", false)
  | 13 => ("FavoursGoOffModel", "bestValue", "I", false)
  | 14 => ("FavoursGoOffModel", "rates", "[I", true)
  | 15 => ("FavoursGoOffModel", "has", "[I", true)
  | 16 => ("FavoursGoOffModel", "bytes", "[I", true)
  | 17 => ("FavoursGoOffModel", "bytesLong", "I", false)
  | 18 => ("FavoursGoOffModel", "tokenAt", "I", false)
  | 19 => ("FavoursGoOffModel", "tokenLong", "I", false)
  | 20 => ("FavoursGoOffModel", "token", "I", false)
  | 21 => ("FavoursGoOffModel", "value", "I", false)
  | 22 => ("FavoursGoOffModel", "next", "[I", true)
  | _ => ("FavoursGoOffModel", "values", "[I", true)
def tyX10 : Nat → FieldType := fun k => match k with
  | 0 => .array .int
  | 1 => .array .int
  | 2 => .array .boolean
  | 3 => .array .int
  | 4 => .long
  | 5 => .long
  | 6 => .array .int
  | 7 => .int
  | 8 => .array .int
  | 9 => .array .int
  | 10 => .array .int
  | 11 => .array .int
  | 12 => .int
  | 13 => .int
  | 14 => .array .int
  | 15 => .array .int
  | 16 => .array .int
  | 17 => .int
  | 18 => .int
  | 19 => .int
  | 20 => .int
  | 21 => .int
  | 22 => .array .int
  | _ => .array .int
abbrev wsX100 : List Cond := u_ws RX10 TX10 24
theorem nmX10 : ∀ a, a < 24 → ∀ b, b < 24 → a ≠ b → (TX10 a).2.1 ≠ (TX10 b).2.1 := by decide +kernel
theorem tyX10_ok : ∀ k, k < 24 → parseFieldDescriptor (TX10 k).2.2.1 = some (tyX10 k) := by decide +kernel
abbrev cX10_init : ByteArray := prog_12_method_1_code
def yX10_init : MethodName := ⟨RX10, "<init>", "()V"⟩
abbrev cX10_in : ByteArray := prog_12_method_3_code
def yX10_in : MethodName := ⟨RX10, "in", "(JJJ)Z"⟩
abbrev cX10_bad : ByteArray := prog_12_method_4_code
def yX10_bad : MethodName := ⟨RX10, "bad", "(I)I"⟩
abbrev cX10_no : ByteArray := prog_12_method_5_code
def yX10_no : MethodName := ⟨RX10, "no", "(I)I"⟩
abbrev cX10_full : ByteArray := prog_12_method_6_code
def yX10_full : MethodName := ⟨RX10, "full", "()I"⟩
abbrev cX10_tells : ByteArray := prog_12_method_7_code
def yX10_tells : MethodName := ⟨RX10, "tells", "(JJ)I"⟩
abbrev cX10_begin : ByteArray := prog_12_method_8_code
def yX10_begin : MethodName := ⟨RX10, "begin", "([II)V"⟩
abbrev cX10_day : ByteArray := prog_12_method_9_code
def yX10_day : MethodName := ⟨RX10, "day", "()I"⟩
abbrev cX10_many : ByteArray := prog_12_method_10_code
def yX10_many : MethodName := ⟨RX10, "many", "()I"⟩
abbrev cX10_isOne : ByteArray := prog_12_method_11_code
def yX10_isOne : MethodName := ⟨RX10, "isOne", "(I)Z"⟩
abbrev cX10_isDay : ByteArray := prog_12_method_12_code
def yX10_isDay : MethodName := ⟨RX10, "isDay", "(I)Z"⟩
abbrev cX10_isThing : ByteArray := prog_12_method_13_code
def yX10_isThing : MethodName := ⟨RX10, "isThing", "(I)Z"⟩
abbrev cX10_isFavour : ByteArray := prog_12_method_14_code
def yX10_isFavour : MethodName := ⟨RX10, "isFavour", "(I)Z"⟩
abbrev cX10_told0 : ByteArray := prog_12_method_15_code
def yX10_told0 : MethodName := ⟨RX10, "told0", "(II)I"⟩
abbrev cX10_people : ByteArray := prog_12_method_16_code
def yX10_people : MethodName := ⟨RX10, "people", "(I)I"⟩
abbrev cX10_strong : ByteArray := prog_12_method_17_code
def yX10_strong : MethodName := ⟨RX10, "strong", "(II)I"⟩
abbrev cX10_layFavour : ByteArray := prog_12_method_18_code
def yX10_layFavour : MethodName := ⟨RX10, "layFavour", "([IIIIIIIII)V"⟩
abbrev cX10_favour : ByteArray := prog_12_method_19_code
def yX10_favour : MethodName := ⟨RX10, "favour", "(IIIIII)I"⟩
abbrev cX10_layNeed : ByteArray := prog_12_method_20_code
def yX10_layNeed : MethodName := ⟨RX10, "layNeed", "([IIIIII)V"⟩
abbrev cX10_need : ByteArray := prog_12_method_21_code
def yX10_need : MethodName := ⟨RX10, "need", "(IIII)I"⟩
abbrev cX10_contented : ByteArray := prog_12_method_22_code
def yX10_contented : MethodName := ⟨RX10, "contented", "()I"⟩
abbrev cX10_notBelow0 : ByteArray := prog_12_method_23_code
def yX10_notBelow0 : MethodName := ⟨RX10, "notBelow0", "(I)I"⟩
abbrev cX10_valueOf : ByteArray := prog_12_method_24_code
def yX10_valueOf : MethodName := ⟨RX10, "valueOf", "(II)I"⟩
abbrev cX10_valueNow : ByteArray := prog_12_method_25_code
def yX10_valueNow : MethodName := ⟨RX10, "valueNow", "(I)I"⟩
abbrev cX10_value : ByteArray := prog_12_method_26_code
def yX10_value : MethodName := ⟨RX10, "value", "(II)I"⟩
abbrev cX10_of : ByteArray := prog_12_method_27_code
def yX10_of : MethodName := ⟨RX10, "of", "(I)I"⟩
abbrev cX10_lose : ByteArray := prog_12_method_28_code
def yX10_lose : MethodName := ⟨RX10, "lose", "(I)V"⟩
abbrev cX10_pass : ByteArray := prog_12_method_29_code
def yX10_pass : MethodName := ⟨RX10, "pass", "(II)I"⟩
abbrev cX10_join : ByteArray := prog_12_method_30_code
def yX10_join : MethodName := ⟨RX10, "join", "(II)I"⟩
abbrev cX10_ask : ByteArray := prog_12_method_31_code
def yX10_ask : MethodName := ⟨RX10, "ask", "(I)I"⟩
abbrev cX10_night : ByteArray := prog_12_method_32_code
def yX10_night : MethodName := ⟨RX10, "night", "()I"⟩
abbrev cX10_undo : ByteArray := prog_12_method_33_code
def yX10_undo : MethodName := ⟨RX10, "undo", "()I"⟩
abbrev cX10_owesTo : ByteArray := prog_12_method_34_code
def yX10_owesTo : MethodName := ⟨RX10, "owesTo", "(II)I"⟩
abbrev cX10_owes : ByteArray := prog_12_method_35_code
def yX10_owes : MethodName := ⟨RX10, "owes", "(II)I"⟩
abbrev cX10_layRing : ByteArray := prog_12_method_36_code
def yX10_layRing : MethodName := ⟨RX10, "layRing", "(II)Z"⟩
abbrev cX10_findRing : ByteArray := prog_12_method_37_code
def yX10_findRing : MethodName := ⟨RX10, "findRing", "()V"⟩
abbrev cX10_ring : ByteArray := prog_12_method_38_code
def yX10_ring : MethodName := ⟨RX10, "ring", "(I)I"⟩
abbrev cX10_leastOf : ByteArray := prog_12_method_39_code
def yX10_leastOf : MethodName := ⟨RX10, "leastOf", "(II)I"⟩
abbrev cX10_cancel : ByteArray := prog_12_method_40_code
def yX10_cancel : MethodName := ⟨RX10, "cancel", "()I"⟩
abbrev cX10_netOf : ByteArray := prog_12_method_41_code
def yX10_netOf : MethodName := ⟨RX10, "netOf", "(I)I"⟩
abbrev cX10_net : ByteArray := prog_12_method_42_code
def yX10_net : MethodName := ⟨RX10, "net", "(I)I"⟩
abbrev cX10_fewest : ByteArray := prog_12_method_43_code
def yX10_fewest : MethodName := ⟨RX10, "fewest", "()I"⟩
abbrev cX10_need0 : ByteArray := prog_12_method_44_code
def yX10_need0 : MethodName := ⟨RX10, "need0", "(II)I"⟩
abbrev cX10_mayMeet : ByteArray := prog_12_method_45_code
def yX10_mayMeet : MethodName := ⟨RX10, "mayMeet", "(II)Z"⟩
abbrev cX10_fits : ByteArray := prog_12_method_46_code
def yX10_fits : MethodName := ⟨RX10, "fits", "(I)Z"⟩
abbrev cX10_look : ByteArray := prog_12_method_47_code
def yX10_look : MethodName := ⟨RX10, "look", "()V"⟩
abbrev cX10_findMet : ByteArray := prog_12_method_48_code
def yX10_findMet : MethodName := ⟨RX10, "findMet", "()V"⟩
abbrev cX10_met : ByteArray := prog_12_method_49_code
def yX10_met : MethodName := ⟨RX10, "met", "(I)I"⟩
abbrev cX10_plan : ByteArray := prog_12_method_50_code
def yX10_plan : MethodName := ⟨RX10, "plan", "(I)I"⟩
abbrev cX10_toDo : ByteArray := prog_12_method_51_code
def yX10_toDo : MethodName := ⟨RX10, "toDo", "(II)I"⟩
abbrev cX10_doneFor : ByteArray := prog_12_method_52_code
def yX10_doneFor : MethodName := ⟨RX10, "doneFor", "(III)I"⟩
abbrev cX10_fire : ByteArray := prog_12_method_53_code
def yX10_fire : MethodName := ⟨RX10, "fire", "(II)I"⟩
abbrev cX10_ratesBy : ByteArray := prog_12_method_54_code
def yX10_ratesBy : MethodName := ⟨RX10, "ratesBy", "(I)I"⟩
abbrev cX10_hold : ByteArray := prog_12_method_55_code
def yX10_hold : MethodName := ⟨RX10, "hold", "(I)I"⟩
abbrev cX10_rate : ByteArray := prog_12_method_56_code
def yX10_rate : MethodName := ⟨RX10, "rate", "(II)I"⟩
abbrev cX10_set : ByteArray := prog_12_method_57_code
def yX10_set : MethodName := ⟨RX10, "set", "(II)I"⟩
abbrev cX10_settles : ByteArray := prog_12_method_58_code
def yX10_settles : MethodName := ⟨RX10, "settles", "()I"⟩
abbrev cX10_told : ByteArray := prog_12_method_59_code
def yX10_told : MethodName := ⟨RX10, "told", "(III)I"⟩
abbrev cX10_forged : ByteArray := prog_12_method_60_code
def yX10_forged : MethodName := ⟨RX10, "forged", "()I"⟩
abbrev cX10_forget : ByteArray := prog_12_method_61_code
def yX10_forget : MethodName := ⟨RX10, "forget", "()I"⟩
abbrev cX10_goesOff : ByteArray := prog_12_method_62_code
def yX10_goesOff : MethodName := ⟨RX10, "goesOff", "(I)I"⟩
abbrev cX10_kept : ByteArray := prog_12_method_63_code
def yX10_kept : MethodName := ⟨RX10, "kept", "(II)I"⟩
abbrev cX10_type : ByteArray := prog_12_method_64_code
def yX10_type : MethodName := ⟨RX10, "type", "(JI)I"⟩
abbrev cX10_clear : ByteArray := prog_12_method_65_code
def yX10_clear : MethodName := ⟨RX10, "clear", "()I"⟩
abbrev cX10_isSmall : ByteArray := prog_12_method_66_code
def yX10_isSmall : MethodName := ⟨RX10, "isSmall", "(I)Z"⟩
abbrev cX10_isFigure : ByteArray := prog_12_method_67_code
def yX10_isFigure : MethodName := ⟨RX10, "isFigure", "(I)Z"⟩
abbrev cX10_lookAt : ByteArray := prog_12_method_68_code
def yX10_lookAt : MethodName := ⟨RX10, "lookAt", "(I)V"⟩
abbrev cX10_goOn : ByteArray := prog_12_method_69_code
def yX10_goOn : MethodName := ⟨RX10, "goOn", "()V"⟩
abbrev cX10_isWord : ByteArray := prog_12_method_70_code
def yX10_isWord : MethodName := ⟨RX10, "isWord", "(IIIIII)Z"⟩
abbrev cX10_takes : ByteArray := prog_12_method_71_code
def yX10_takes : MethodName := ⟨RX10, "takes", "(III)Z"⟩
abbrev cX10_readsStrong : ByteArray := prog_12_method_72_code
def yX10_readsStrong : MethodName := ⟨RX10, "readsStrong", "()Z"⟩
abbrev cX10_readsFavour : ByteArray := prog_12_method_73_code
def yX10_readsFavour : MethodName := ⟨RX10, "readsFavour", "()Z"⟩
abbrev cX10_readsNeed : ByteArray := prog_12_method_74_code
def yX10_readsNeed : MethodName := ⟨RX10, "readsNeed", "()Z"⟩
abbrev cX10_readsItem : ByteArray := prog_12_method_75_code
def yX10_readsItem : MethodName := ⟨RX10, "readsItem", "(Z)Z"⟩
abbrev cX10_read : ByteArray := prog_12_method_76_code
def yX10_read : MethodName := ⟨RX10, "read", "()I"⟩
abbrev cX10_part : ByteArray := prog_12_method_77_code
def yX10_part : MethodName := ⟨RX10, "part", "(I)J"⟩
abbrev cX10_image : ByteArray := prog_12_method_78_code
def yX10_image : MethodName := ⟨RX10, "image", "(I)I"⟩
abbrev cX10_from : ByteArray := prog_12_method_79_code
def yX10_from : MethodName := ⟨RX10, "from", "(I)I"⟩
abbrev cX10_status : ByteArray := prog_12_method_80_code
def yX10_status : MethodName := ⟨RX10, "status", "(I)I"⟩
abbrev cX10_counted : ByteArray := prog_12_method_81_code
def yX10_counted : MethodName := ⟨RX10, "counted", "(I)I"⟩
abbrev cX10_count : ByteArray := prog_12_method_82_code
def yX10_count : MethodName := ⟨RX10, "count", "(I)I"⟩
abbrev cX10_sums : ByteArray := prog_12_method_83_code
def yX10_sums : MethodName := ⟨RX10, "sums", "(JII)J"⟩
abbrev cX10_digest : ByteArray := prog_12_method_84_code
def yX10_digest : MethodName := ⟨RX10, "digest", "()J"⟩
def RJ9 : String := "java/lang/Math"
def TJ9 : u_T := fun k => match k with
  | _ => ("", "", "", false)
def tyJ9 : Nat → FieldType := fun k => match k with
  | _ => .int
abbrev wsJ90 : List Cond := u_ws RJ9 TJ9 0
theorem nmJ9 : ∀ a, a < 0 → ∀ b, b < 0 → a ≠ b → (TJ9 a).2.1 ≠ (TJ9 b).2.1 := by decide +kernel
theorem tyJ9_ok : ∀ k, k < 0 → parseFieldDescriptor (TJ9 k).2.2.1 = some (tyJ9 k) := by decide +kernel
abbrev cJ9_max_7cf53 : ByteArray := prog_13_method_65_code
def yJ9_max_7cf53 : MethodName := ⟨RJ9, "max", "(II)I"⟩
abbrev cJ9_min_7cf53 : ByteArray := prog_13_method_69_code
def yJ9_min_7cf53 : MethodName := ⟨RJ9, "min", "(II)I"⟩
def RJ0 : String := "java/lang/String"
def TJ0 : u_T := fun k => match k with
  | _ => ("", "", "", false)
def tyJ0 : Nat → FieldType := fun k => match k with
  | _ => .int
abbrev wsJ00 : List Cond := u_ws RJ0 TJ0 0
theorem nmJ0 : ∀ a, a < 0 → ∀ b, b < 0 → a ≠ b → (TJ0 a).2.1 ≠ (TJ0 b).2.1 := by decide +kernel
theorem tyJ0_ok : ∀ k, k < 0 → parseFieldDescriptor (TJ0 k).2.2.1 = some (tyJ0 k) := by decide +kernel
abbrev cJ0_length_8abf5 : ByteArray := prog_14_method_54_code
def yJ0_length_8abf5 : MethodName := ⟨RJ0, "length", "()I"⟩
abbrev cJ0_charAt_5068e : ByteArray := prog_14_method_56_code
def yJ0_charAt_5068e : MethodName := ⟨RJ0, "charAt", "(I)C"⟩
abbrev cJ0_coder_7d493 : ByteArray := prog_14_method_152_code
def yJ0_coder_7d493 : MethodName := ⟨RJ0, "coder", "()B"⟩
abbrev cJ0_isLatin1_aae02 : ByteArray := prog_14_method_154_code
def yJ0_isLatin1_aae02 : MethodName := ⟨RJ0, "isLatin1", "()Z"⟩
abbrev cJ0_checkIndex_df160 : ByteArray := prog_14_method_155_code
def yJ0_checkIndex_df160 : MethodName := ⟨RJ0, "checkIndex", "(II)V"⟩
def RJ1 : String := "java/lang/StringLatin1"
def TJ1 : u_T := fun k => match k with
  | _ => ("", "", "", false)
def tyJ1 : Nat → FieldType := fun k => match k with
  | _ => .int
abbrev wsJ10 : List Cond := u_ws RJ1 TJ1 0
theorem nmJ1 : ∀ a, a < 0 → ∀ b, b < 0 → a ≠ b → (TJ1 a).2.1 ≠ (TJ1 b).2.1 := by decide +kernel
theorem tyJ1_ok : ∀ k, k < 0 → parseFieldDescriptor (TJ1 k).2.2.1 = some (tyJ1 k) := by decide +kernel
abbrev cJ1_charAt_3b067 : ByteArray := prog_15_method_2_code
def yJ1_charAt_3b067 : MethodName := ⟨RJ1, "charAt", "([BI)C"⟩
def RJ2 : String := "java/lang/StringUTF16"
def TJ2 : u_T := fun k => match k with
  | _ => ("", "", "", false)
def tyJ2 : Nat → FieldType := fun k => match k with
  | _ => .int
abbrev wsJ20 : List Cond := u_ws RJ2 TJ2 0
theorem nmJ2 : ∀ a, a < 0 → ∀ b, b < 0 → a ≠ b → (TJ2 a).2.1 ≠ (TJ2 b).2.1 := by decide +kernel
theorem tyJ2_ok : ∀ k, k < 0 → parseFieldDescriptor (TJ2 k).2.2.1 = some (tyJ2 k) := by decide +kernel
abbrev cJ2_getChar_3b067 : ByteArray := prog_16_method_5_code
def yJ2_getChar_3b067 : MethodName := ⟨RJ2, "getChar", "([BI)C"⟩
abbrev cJ2_length_9d52b : ByteArray := prog_16_method_6_code
def yJ2_length_9d52b : MethodName := ⟨RJ2, "length", "([B)I"⟩
abbrev cJ2_charAt_3b067 : ByteArray := prog_16_method_83_code
def yJ2_charAt_3b067 : MethodName := ⟨RJ2, "charAt", "([BI)C"⟩
abbrev cJ2_checkIndex_2214a : ByteArray := prog_16_method_91_code
def yJ2_checkIndex_2214a : MethodName := ⟨RJ2, "checkIndex", "(I[B)V"⟩
def RJ10 : String := "java/lang/System"
def TJ10 : u_T := fun k => match k with
  | _ => ("", "", "", false)
def tyJ10 : Nat → FieldType := fun k => match k with
  | _ => .int
abbrev wsJ100 : List Cond := u_ws RJ10 TJ10 0
theorem nmJ10 : ∀ a, a < 0 → ∀ b, b < 0 → a ≠ b → (TJ10 a).2.1 ≠ (TJ10 b).2.1 := by decide +kernel
theorem tyJ10_ok : ∀ k, k < 0 → parseFieldDescriptor (TJ10 k).2.2.1 = some (tyJ10 k) := by decide +kernel
def RJ3 : String := "jdk/internal/util/Preconditions"
def TJ3 : u_T := fun k => match k with
  | _ => ("", "", "", false)
def tyJ3 : Nat → FieldType := fun k => match k with
  | _ => .int
abbrev wsJ30 : List Cond := u_ws RJ3 TJ3 0
theorem nmJ3 : ∀ a, a < 0 → ∀ b, b < 0 → a ≠ b → (TJ3 a).2.1 ≠ (TJ3 b).2.1 := by decide +kernel
theorem tyJ3_ok : ∀ k, k < 0 → parseFieldDescriptor (TJ3 k).2.2.1 = some (tyJ3 k) := by decide +kernel
abbrev cJ3_checkIndex_8e157 : ByteArray := prog_18_method_11_code
def yJ3_checkIndex_8e157 : MethodName := ⟨RJ3, "checkIndex", "(IILjava/util/function/BiFunction;)I"⟩
def RL : String := "FavoursGoOffLaw"
abbrev cL_law : ByteArray := code
def yL_law : MethodName := ⟨RL, "law", "([I)Z"⟩

abbrev vwCl : List vw_C := [(RX0, TX0, 2), (RX1, TX1, 6), (RX2, TX2, 2), (RX3, TX3, 5), (RX4, TX4, 13), (RX5, TX5, 8), (RX6, TX6, 6), (RX7, TX7, 3), (RX8, TX8, 2), (RX9, TX9, 13), (RX10, TX10, 24)]
/-- the tables' words that any call may hand on -/
def TB : List Cond := lw_tbl.filter goodWord
theorem tb_good : ∀ w ∈ TB, goodWord w = true := fun _ h => (List.mem_filter.mp h).2
theorem tb_sub : ∀ w ∈ TB, w ∈ lw_tbl := fun _ h => (List.mem_filter.mp h).1
theorem tb_t {w : Cond} (i : Nat) (h : tables_1[i]? = some w) (hg : goodWord w = true) : w ∈ TB := List.mem_filter.mpr ⟨List.mem_append_right _ (List.mem_of_getElem? h), hg⟩
theorem tb_s {w : Cond} (i : Nat) (h : (k2_sels lw_privs)[i]? = some w) (hg : goodWord w = true) : w ∈ TB := List.mem_filter.mpr ⟨List.mem_append_left _ (List.mem_of_getElem? h), hg⟩
end
section
/-! ===== a picture of the heap as numbers; the judgement gV over it; a rule an instruction ===== -/
/-- launch, first address, slots of the classes' fields, the class of int[] and of boolean[], where the String constants lie, and their bytes -/
abbrev EE : Type := Launch × Nat × va_G × (ClassId × ClassId) × (Nat → Nat) × (Nat → Nat)
/-- how many cells; the kind of each; its int, long, reference fields; an array's length and contents -/
abbrev Hp : Type := Nat × (Nat → Nat) × (Nat → Nat → Int32) × (Nat → Nat → Int64) × (Nat → Nat → Option Nat) × (Nat → Nat) × (Nat → Nat → Int32)
def h_n (G : Hp) : Nat := G.1
def h_k (G : Hp) : Nat → Nat := G.2.1
def h_i (G : Hp) : Nat → Nat → Int32 := G.2.2.1
def h_l (G : Hp) : Nat → Nat → Int64 := G.2.2.2.1
def h_r (G : Hp) : Nat → Nat → Option Nat := G.2.2.2.2.1
def h_z (G : Hp) : Nat → Nat := G.2.2.2.2.2.1
def h_a (G : Hp) : Nat → Nat → Int32 := G.2.2.2.2.2.2
def up2 {α : Type} (f : Nat → Nat → α) (a k : Nat) (v : α) : Nat → Nat → α := fun a' k' => if a' = a ∧ k' = k then v else f a' k'
def s_i (G : Hp) (a k : Nat) (v : Int32) : Hp := (G.1, G.2.1, up2 G.2.2.1 a k v, G.2.2.2)
def s_l (G : Hp) (a k : Nat) (v : Int64) : Hp := (G.1, G.2.1, G.2.2.1, up2 G.2.2.2.1 a k v, G.2.2.2.2)
def s_r (G : Hp) (a k : Nat) (v : Option Nat) : Hp := (G.1, G.2.1, G.2.2.1, G.2.2.2.1, up2 G.2.2.2.2.1 a k v, G.2.2.2.2.2)
def s_a (G : Hp) (a : Nat) (f : Nat → Int32) : Hp := (G.1, G.2.1, G.2.2.1, G.2.2.2.1, G.2.2.2.2.1, G.2.2.2.2.2.1, va_up G.2.2.2.2.2.2 a f)
def s_e (G : Hp) (a i : Nat) (v : Int32) : Hp := s_a G a (upd (h_a G a) i v)
def s_new (G : Hp) (ci : Nat) : Hp := (G.1 + 1, va_up G.2.1 G.1 ci, va_up G.2.2.1 G.1 (fun _ => 0), va_up G.2.2.2.1 G.1 (fun _ => 0), va_up G.2.2.2.2.1 G.1 (fun _ => none), G.2.2.2.2.2)
def s_arr (G : Hp) (kc n : Nat) : Hp := (G.1 + 1, va_up G.2.1 G.1 kc, G.2.2.1, G.2.2.2.1, G.2.2.2.2.1, va_up G.2.2.2.2.2.1 G.1 n, va_up G.2.2.2.2.2.2 G.1 (fun _ => 0))
/-- the fields of each kind: 0 int or boolean, 1 long, 2 reference -/
def fty : Nat → List Nat := fun c => match c with
  | 0 => [2, 0]
  | 1 => [2, 2, 2, 0, 0, 0]
  | 2 => [1, 1]
  | 3 => [2, 2, 2, 0, 0]
  | 4 => [0, 0, 0, 0, 0, 2, 2, 2, 2, 2, 2, 2, 2]
  | 5 => [2, 2, 0, 0, 0, 0, 0, 0]
  | 6 => [2, 2, 2, 2, 2, 0]
  | 7 => [0, 2, 0]
  | 8 => [2, 0]
  | 9 => [2, 2, 2, 2, 2, 2, 2, 2, 2, 2, 0, 0, 0]
  | 10 => [2, 2, 2, 2, 1, 1, 2, 0, 2, 2, 2, 2, 0, 0, 2, 2, 2, 0, 0, 0, 0, 0, 2, 2]
  | _ => []
def f_v (b : Nat) (G : Hp) (a t k : Nat) : Value := if t = 0 then .int (h_i G a k) else if t = 1 then .long (h_l G a k) else va_rf ((h_r G a k).map (fun q => b + q))
def f_go (g : Nat → Nat → Value) : List Nat → Nat → List Value
  | [], _ => []
  | t :: l, k => g t k :: f_go g l (k + 1)
theorem f_go_get (g : Nat → Nat → Value) : ∀ (l : List Nat) (k j : Nat), (f_go g l k)[j]? = l[j]?.map (fun t => g t (k + j))
  | [], k, j => by simp [f_go]
  | t :: l, k, 0 => by simp [f_go]
  | t :: l, k, j + 1 => by
    simp only [f_go, List.getElem?_cons_succ]
    rw [f_go_get g l (k + 1) j, show k + 1 + j = k + (j + 1) by omega]
theorem f_go_len (g : Nat → Nat → Value) : ∀ (l : List Nat) (k : Nat), (f_go g l k).length = l.length
  | [], k => rfl
  | t :: l, k => by simp [f_go, f_go_len g l (k + 1)]
theorem f_go_set {g g' : Nat → Nat → Value} {l : List Nat} {q t : Nat} (ht : l[q]? = some t) (ho : ∀ t' j, j ≠ q → g' t' j = g t' j) : (f_go g l 0).set q (g' t q) = f_go g' l 0 := by
  have hq : q < l.length := (List.getElem?_eq_some_iff.mp ht).1
  apply List.ext_getElem?
  intro j
  rw [List.getElem?_set, f_go_get, f_go_get, f_go_len]
  by_cases h : q = j
  · subst h
    rw [if_pos rfl, if_pos hq, ht]
    simp
  · rw [if_neg h]
    cases hj : l[j]? with
    | none => rfl
    | some t' => simp [ho t' j (Ne.symm h)]
theorem f_go_congr {g g' : Nat → Nat → Value} {l : List Nat} (ho : ∀ t' j, g' t' j = g t' j) : f_go g' l 0 = f_go g l 0 := by
  have : g' = g := by funext t j; exact ho t j
  rw [this]
def g_ent (E : EE) (G : Hp) (a : Nat) : va_E := if h_k G a = 11 then .inl (E.2.2.2.1.1, h_z G a, .inl (h_a G a)) else if h_k G a = 12 then .inl (E.2.2.2.1.2, h_z G a, .inl (h_a G a)) else .inr (h_k G a, f_go (f_v E.2.1 G a) (fty (h_k G a)) 0)
theorem ent_o {E : EE} {G : Hp} {a ci : Nat} (h : h_k G a = ci) (hc : ci < 11) : g_ent E G a = .inr (ci, f_go (f_v E.2.1 G a) (fty ci) 0) := by
  subst h
  unfold g_ent
  rw [if_neg (by omega), if_neg (by omega)]
theorem ent_i {E : EE} {G : Hp} {a : Nat} (h : h_k G a = 11) : g_ent E G a = .inl (E.2.2.2.1.1, h_z G a, .inl (h_a G a)) := by
  unfold g_ent
  rw [if_pos h]
theorem ent_z {E : EE} {G : Hp} {a : Nat} (h : h_k G a = 12) : g_ent E G a = .inl (E.2.2.2.1.2, h_z G a, .inl (h_a G a)) := by
  unfold g_ent
  rw [if_neg (by omega), if_pos h]
def g_wl (E : EE) (G : Hp) : va_W := (List.range (h_n G)).map (fun a => (E.2.1 + a, g_ent E G a))
theorem wl_get {E : EE} {G : Hp} {a : Nat} (h : a < h_n G) : (g_wl E G)[a]? = some (E.2.1 + a, g_ent E G a) := by
  simp [g_wl, h]
theorem wl_of {E : EE} {G : Hp} {i : Nat} {q : Nat × va_E} (h : (g_wl E G)[i]? = some q) : i < h_n G ∧ q = (E.2.1 + i, g_ent E G i) := by
  have h1 : i < (g_wl E G).length := (List.getElem?_eq_some_iff.mp h).1
  have h2 : i < h_n G := by simpa [g_wl] using h1
  rw [wl_get h2] at h
  exact ⟨h2, (Option.some.inj h).symm⟩
theorem wl_D (E : EE) (G : Hp) : va_D (fun q => E.2.1 ≤ q) (g_wl E G) := by
  refine ⟨fun i j p q hi hj he => ?_, fun k q hk => ?_⟩
  · obtain ⟨-, rfl⟩ := wl_of hi
    obtain ⟨-, rfl⟩ := wl_of hj
    dsimp only at he
    omega
  · obtain ⟨-, rfl⟩ := wl_of hk
    show E.2.1 ≤ E.2.1 + k
    omega
theorem wl_set {E : EE} {G G' : Hp} {a : Nat} {e : va_E} (h : a < h_n G) (hn : h_n G' = h_n G) (he : g_ent E G' a = e) (ho : ∀ q, q ≠ a → g_ent E G' q = g_ent E G q) : (g_wl E G).set a (E.2.1 + a, e) = g_wl E G' := by
  apply List.ext_getElem?
  intro j
  have hl : (g_wl E G).length = h_n G := by simp [g_wl]
  rw [List.getElem?_set, hl]
  by_cases hj : a = j
  · subst hj
    rw [if_pos rfl, if_pos h, wl_get (by rw [hn]; exact h), he]
  · rw [if_neg hj]
    by_cases hjn : j < h_n G
    · rw [wl_get hjn, wl_get (by rw [hn]; exact hjn), ho j (Ne.symm hj)]
    · rw [List.getElem?_eq_none (by rw [hl]; omega), List.getElem?_eq_none (by simp [g_wl, hn]; omega)]
theorem wl_push {E : EE} {G G' : Hp} {e : va_E} (hn : h_n G' = h_n G + 1) (he : g_ent E G' (h_n G) = e) (ho : ∀ q, q < h_n G → g_ent E G' q = g_ent E G q) : g_wl E G ++ [(E.2.1 + h_n G, e)] = g_wl E G' := by
  unfold g_wl
  rw [hn, List.range_succ, List.map_append, ← he]
  congr 1
  apply List.map_congr_left
  intro q hq
  rw [ho q (List.mem_range.mp hq)]
def gWd (E : EE) (G : Hp) (H : Heap) : Prop := va_P E.2.2.1 vwCl (g_wl E G) H ∧ H.size = E.2.1 + h_n G
/-- the links of members of nest mates -/
abbrev nwL : List (String × Nat × MethodName × String) := [("FavoursGoOff", 9, ⟨"FavoursGoOff$History", "<init>", "()V"⟩, "FavoursGoOff"), ("FavoursGoOff", 31, ⟨"FavoursGoOff$Reader", "<init>", "()V"⟩, "FavoursGoOff"), ("FavoursGoOff$Reader", 11, ⟨"FavoursGoOff$Text", "<init>", "()V"⟩, "FavoursGoOff"), ("FavoursGoOff", 43, ⟨"FavoursGoOff$Debts", "<init>", "()V"⟩, "FavoursGoOff"), ("FavoursGoOff", 50, ⟨"FavoursGoOff$Circle", "<init>", "()V"⟩, "FavoursGoOff"), ("FavoursGoOff", 57, ⟨"FavoursGoOff$Plan", "<init>", "()V"⟩, "FavoursGoOff"), ("FavoursGoOff", 64, ⟨"FavoursGoOff$Fraction", "<init>", "()V"⟩, "FavoursGoOff"), ("FavoursGoOff$Reader", 125, ⟨"FavoursGoOff", "isWithin", "(III)Z"⟩, "FavoursGoOff")]
def g_nw (U : State) : Prop := ∀ q ∈ nwL, va_Nw (.methodLinkNest q.1 q.2.1 q.2.2.1 q.2.2.2) U
def g_six : List (Nat × String) := [(44, "people"), (67, "strong"), (72, "favour"), (87, "need")]
abbrev g_len : List Nat := [6, 6, 6, 4]
abbrev g_byt : List (List Int32) := [[112, 101, 111, 112, 108, 101], [115, 116, 114, 111, 110, 103], [102, 97, 118, 111, 117, 114], [110, 101, 101, 100]]
/-- what is known of the String constants -/
def g_st (E : EE) (U : State) : Prop := (∀ i q, g_six[i]? = some q → vk_R "FavoursGoOff$Reader" q.1 q.2 (E.2.2.2.2.1 i) U) ∧ vk_S 4 g_len g_byt E.2.2.2.2.1 E.2.2.2.2.2 (fun q => E.2.1 ≤ q) U U.heap ∧ va_Z "java/lang/String" "COMPACT_STRINGS" "Z" (.int 1) (fun q => E.2.1 ≤ q) U U.heap
def g_K (E : EE) (U : State) : Prop := va_K E.2.2.1 vwCl [(E.2.2.2.1.1, .int), (E.2.2.2.1.2, .boolean)] U
def gKn (E : EE) (U : State) : Prop := g_K E U ∧ g_nw U ∧ g_st E U ∧ E.2.1 ≤ U.heap.size
theorem gKn.same {E : EE} {u U : State} (hv : U.vm = u.vm) (hh : U.heap = u.heap) (h : gKn E u) : gKn E U := by
  have hal : u.vm.Alike U.vm := by rw [hv]; exact Vm.Alike.refl _
  obtain ⟨h1, h2, ⟨h3, h4, h5⟩, h6⟩ := h
  refine ⟨va_K.moved hal h1, fun q hq => va_Nw.same rfl hv.symm (h2 q hq), ⟨fun i q hq => vk_R.same hv (h3 i q hq), ?_, ?_⟩, by rw [hh]; exact h6⟩
  · rw [hh]
    exact vk_S.moved hal h4
  · rw [hh]
    exact va_Z.moved hal h5
theorem gKn.warm {E : EE} {s U : State} {H : Heap} {locs : List Loc} (hS : va_S (fun q => E.2.1 ≤ q) s.heap H locs) (hU : U.heap = H) (hW : s.WarmedH U.vm) (h : gKn E s) : gKn E U := by
  obtain ⟨h1, h2, ⟨h3, h4, h5⟩, h6⟩ := h
  refine ⟨va_K.moved hW.alike h1, fun q hq => va_Nw.warmM hW (h2 q hq), ⟨fun i q hq => vk_R.warm hW (h3 i q hq), ?_, ?_⟩, by rw [hU]; exact Nat.le_trans h6 hS.1⟩
  · rw [hU]
    exact vk_S.moved hW.alike (h4.kept (fun a ha hn => hS.2.1 a ha hn))
  · rw [hU]
    exact va_Z.moved hW.alike (h5.kept hS.2.1)

/-! ===== locals by their places ===== -/
def lvp (ls : Array Slot) (nL : Nat) (lv : List (Option Value)) : Prop := ls.size = nL ∧ lv_wf ls ∧ ∀ (i : Nat) (v : Value), lv[i]? = some (some v) → ls[i]? = some (.val v)
def lvl (lv : List (Option Value)) : List (Nat × Value) := (List.range lv.length).filterMap (fun i => match lv[i]? with
  | some (some v) => some (i, v)
  | _ => none)
theorem lvl_mem {lv : List (Option Value)} {q : Nat × Value} : q ∈ lvl lv ↔ lv[q.1]? = some (some q.2) := by
  unfold lvl
  rw [List.mem_filterMap]
  constructor
  · rintro ⟨i, hi, h⟩
    split at h
    · next v hv => cases h; exact hv
    · cases h
  · intro h
    refine ⟨q.1, List.mem_range.mpr (List.getElem?_eq_some_iff.mp h).1, ?_⟩
    rw [h]
theorem lvp.has {ls : Array Slot} {nL : Nat} {lv : List (Option Value)} (h : lvp ls nL lv) : lv_has ls nL (lvl lv) := ⟨h.1, h.2.1, fun q hq => h.2.2 q.1 q.2 (lvl_mem.mp hq)⟩
def isW (o : Option Value) : Bool := match o with
  | some (.long _) => true
  | some (.double _) => true
  | _ => false
theorem isW_of {v : Value} : isW (some v) = true ↔ v.category = 2 := by cases v <;> simp [isW, Value.category]
/-- a value of one slot is stored -/
def stv : List (Option Value) → Nat → Value → List (Option Value)
  | [], _, _ => []
  | _ :: l, 0, v => some v :: l
  | o :: l, i + 1, v => (if i = 0 ∧ isW o = true then none else o) :: stv l i v
theorem stv_get : ∀ (l : List (Option Value)) (i : Nat) (v : Value) (j : Nat) (w : Value), (stv l i v)[j]? = some (some w) → (j = i ∧ w = v) ∨ (l[j]? = some (some w) ∧ j ≠ i ∧ ¬ (j + 1 = i ∧ w.category = 2))
  | [], i, v, j, w, h => by simp [stv] at h
  | o :: l, 0, v, 0, w, h => by
    simp only [stv, List.getElem?_cons_zero, Option.some.injEq] at h
    exact Or.inl ⟨rfl, h.symm⟩
  | o :: l, 0, v, j + 1, w, h => by
    simp only [stv, List.getElem?_cons_succ] at h
    exact Or.inr ⟨by simpa using h, by omega, by omega⟩
  | o :: l, i + 1, v, 0, w, h => by
    simp only [stv, List.getElem?_cons_zero, Option.some.injEq] at h
    split at h
    · cases h
    · next hn =>
      subst h
      refine Or.inr ⟨rfl, by omega, fun hc => hn ⟨by omega, isW_of.mpr hc.2⟩⟩
  | o :: l, i + 1, v, j + 1, w, h => by
    simp only [stv, List.getElem?_cons_succ] at h
    rcases stv_get l i v j w h with ⟨h1, h2⟩ | ⟨h1, h2, h3⟩
    · exact Or.inl ⟨by omega, h2⟩
    · exact Or.inr ⟨by simpa using h1, by omega, fun hc => h3 ⟨by omega, hc.2⟩⟩
/-- the second half of a long behind its first -/
def clr : List (Option Value) → Nat → List (Option Value)
  | [], _ => []
  | _ :: l, 0 => none :: l
  | o :: l, i + 1 => o :: clr l i
theorem clr_get : ∀ (l : List (Option Value)) (i j : Nat) (w : Value), (clr l i)[j]? = some (some w) → l[j]? = some (some w) ∧ j ≠ i
  | [], i, j, w, h => by simp [clr] at h
  | o :: l, 0, 0, w, h => by simp [clr] at h
  | o :: l, 0, j + 1, w, h => by
    simp only [clr, List.getElem?_cons_succ] at h
    exact ⟨by simpa using h, by omega⟩
  | o :: l, i + 1, 0, w, h => by
    simp only [clr, List.getElem?_cons_zero] at h
    exact ⟨by simpa using h, by omega⟩
  | o :: l, i + 1, j + 1, w, h => by
    simp only [clr, List.getElem?_cons_succ] at h
    obtain ⟨h1, h2⟩ := clr_get l i j w h
    exact ⟨by simpa using h1, by omega⟩
theorem lvp.sub {ls : Array Slot} {nL : Nat} {lv lv' : List (Option Value)} (h : lvp ls nL lv) (hs : ∀ (i : Nat) (v : Value), lv'[i]? = some (some v) → lv[i]? = some (some v)) : lvp ls nL lv' := ⟨h.1, h.2.1, fun i v hv => h.2.2 i v (hs i v hv)⟩
/-- every place that is listed in the second list is so in the first: checked by running -/
def lvs : List (Option Value) → List (Option Value) → Prop
  | _, [] => True
  | l, none :: l' => lvs l.tail l'
  | l, some v :: l' => l.head? = some (some v) ∧ lvs l.tail l'
theorem lvs_get : ∀ (l l' : List (Option Value)), lvs l l' → ∀ (i : Nat) (v : Value), l'[i]? = some (some v) → l[i]? = some (some v)
  | l, [], _, i, v, h => by simp at h
  | l, none :: l', h, 0, v, hv => by simp at hv
  | l, some w :: l', h, 0, v, hv => by
    simp only [List.getElem?_cons_zero, Option.some.injEq] at hv
    subst hv
    have h1 := h.1
    cases l with
    | nil => simp at h1
    | cons a t => simpa using h1
  | l, none :: l', h, i + 1, v, hv => by
    have h2 := lvs_get l.tail l' h i v (by simpa using hv)
    cases l with
    | nil => simp at h2
    | cons a t => simpa using h2
  | l, some w :: l', h, i + 1, v, hv => by
    have h2 := lvs_get l.tail l' h.2 i v (by simpa using hv)
    cases l with
    | nil => simp at h2
    | cons a t => simpa using h2
/-! ===== the judgement ===== -/
/-- program, environment, room, start, method, arguments, what is below, method, code, goal, locals -/
abbrev CT : Type := Program × Env × Room × State × MethodId × Array Value × List Frame × Method × Code × (State → Prop) × Nat
def gV (E : EE) (X : CT) (k n : Nat) (G : Hp) (pc : Nat) (lv : List (Option Value)) (st : List Value) : Prop := match X with
  | (p, e, R, s, m, args, below, meth, c, Q, nL) => ∀ (H : Heap) (locs : List Loc) (ls : Array Slot), gWd E G H → va_S (fun q => E.2.1 ≤ q) s.heap H locs → lvp ls nL lv → W p E.1 e R s m args below meth c H locs k n Q (F0 m pc ls st)
/-- what holds all along a method: its code, class, answer's type; frames, words, cells, slots that may be used; whether it is a constructor -/
def gCx (E : EE) (X : CT) (cc : ByteArray) (own : String) (ret : Option FieldType) (F L Mc Ms : Nat) (ini : Bool) (mL : Nat) : Prop := match X with
  | (p, _e, R, s, m, args, _below, meth, c, _Q, nL) => p.tables.exec = Jvm.exec ∧ c.code = cc ∧ (c.maxLocals = nL ∧ nL = mL) ∧ s.vm.findClass own = some m.cls ∧ (∀ w ∈ TB, w.before args s = true) ∧ gKn E s ∧ (F ≤ R.frames ∧ L ≤ R.locals ∧ Mc ≤ R.cells ∧ Ms ≤ R.slots) ∧ meth.locks = false ∧ meth.sig.returnType = ret ∧ (ini = true → meth.name = "<init>")
/-- the way out, with an answer and a heap -/
def gRet (E : EE) (X : CT) (cc : ByteArray) (ret : Option FieldType) (k n : Nat) (rv : Option Value) (G : Hp) : Prop := ∀ (pc : Nat) (lv : List (Option Value)), (match rv with
  | none => decode cc pc = .ok (.return_, 1) ∧ ret = none
  | some (.int v) => decode cc pc = .ok (.ireturn, 1) ∧ ∃ ty, ret = some ty ∧ narrow ty (.int v) = .int v
  | some (.long _) => decode cc pc = .ok (.lreturn, 1) ∧ ret = some .long
  | some (.ref _) => decode cc pc = .ok (.areturn, 1) ∧ ∃ t, ret = some (.object t)
  | _ => False) → gV E X k n G pc lv rv.toList
end
section
/-! ===== a rule an instruction ===== -/
section GR
variable {E : EE} {X : CT} {cc : ByteArray} {own : String} {ret : Option FieldType} {F L Mc Ms : Nat} {ini : Bool} {mL : Nat} {q n : Nat} {G : Hp} {pc : Nat} {lv : List (Option Value)} {st : List Value}
theorem g_iconst (C : gCx E X cc own ret F L Mc Ms ini mL) {z : Int} {v : Int32} (hd : decode cc pc = .ok (.iconst z, 1)) (hv : Int32.ofInt z = v) (k : gV E X q n G (pc + 1) lv (.int v :: st)) : gV E X q n G pc lv (st) := by
  obtain ⟨p, e, R, s, m, args, below, meth, c, Q, nL⟩ := X
  intro H locs ls hW hS hl
  exact lv_iconst C.1 C.2.1 hd hv (k H locs ls hW hS hl)
theorem g_bipush (C : gCx E X cc own ret F L Mc Ms ini mL) {z : Int} {v : Int32} (hd : decode cc pc = .ok (.bipush z, 2)) (hv : (Int8.ofInt z).toInt32 = v) (k : gV E X q n G (pc + 2) lv (.int v :: st)) : gV E X q n G pc lv (st) := by
  obtain ⟨p, e, R, s, m, args, below, meth, c, Q, nL⟩ := X
  intro H locs ls hW hS hl
  exact lv_bipush C.1 C.2.1 hd hv (k H locs ls hW hS hl)
theorem g_sipush (C : gCx E X cc own ret F L Mc Ms ini mL) {z : Int} {v : Int32} (hd : decode cc pc = .ok (.sipush z, 3)) (hv : (Int16.ofInt z).toInt32 = v) (k : gV E X q n G (pc + 3) lv (.int v :: st)) : gV E X q n G pc lv (st) := by
  obtain ⟨p, e, R, s, m, args, below, meth, c, Q, nL⟩ := X
  intro H locs ls hW hS hl
  exact lv_sipush C.1 C.2.1 hd hv (k H locs ls hW hS hl)
theorem g_lconst (C : gCx E X cc own ret F L Mc Ms ini mL) {z : Fin 2} {v : Int64} (hd : decode cc pc = .ok (.lconst z, 1)) (hv : Int64.ofNat (z : Nat) = v) (k : gV E X q n G (pc + 1) lv (.long v :: st)) : gV E X q n G pc lv (st) := by
  obtain ⟨p, e, R, s, m, args, below, meth, c, Q, nL⟩ := X
  intro H locs ls hW hS hl
  exact lv_lconst C.1 C.2.1 hd hv (k H locs ls hW hS hl)
theorem g_ldc2 (C : gCx E X cc own ret F L Mc Ms ini mL) {idx : Nat} {v : Int64} (hd : decode cc pc = .ok (.ldc2_w idx, 3)) (hc : Cond.constantLong own idx v ∈ TB) (k : gV E X q n G (pc + 3) lv (.long v :: st)) : gV E X q n G pc lv st := by
  obtain ⟨p, e, R, s, m, args, below, meth, c, Q, nL⟩ := X
  intro H locs ls hW hS hl
  exact lv_ldc2 C.1 C.2.1 C.2.2.2.1 (C.2.2.2.2.1 _ hc) hd (k H locs ls hW hS hl)
theorem g_iload_n (C : gCx E X cc own ret F L Mc Ms ini mL) {z : Fin 4} {x : Int32} (hd : decode cc pc = .ok (.iload_n z, 1)) (h : lv[(z : Nat)]? = some (some (.int x))) (k : gV E X q n G (pc + 1) lv (.int x :: st)) : gV E X q n G pc lv st := by
  obtain ⟨p, e, R, s, m, args, below, meth, c, Q, nL⟩ := X
  intro H locs ls hW hS hl
  exact lv_iload_n C.1 C.2.1 hd rfl (hl.2.2 _ _ h) (k H locs ls hW hS hl)
theorem g_iload (C : gCx E X cc own ret F L Mc Ms ini mL) {i : Nat} {x : Int32} (hd : decode cc pc = .ok (.iload i, 2)) (h : lv[i]? = some (some (.int x))) (k : gV E X q n G (pc + 2) lv (.int x :: st)) : gV E X q n G pc lv st := by
  obtain ⟨p, e, R, s, m, args, below, meth, c, Q, nL⟩ := X
  intro H locs ls hW hS hl
  exact lv_iload C.1 C.2.1 hd (hl.2.2 _ _ h) (k H locs ls hW hS hl)
theorem g_lload_n (C : gCx E X cc own ret F L Mc Ms ini mL) {z : Fin 4} {x : Int64} (hd : decode cc pc = .ok (.lload_n z, 1)) (h : lv[(z : Nat)]? = some (some (.long x))) (k : gV E X q n G (pc + 1) lv (.long x :: st)) : gV E X q n G pc lv st := by
  obtain ⟨p, e, R, s, m, args, below, meth, c, Q, nL⟩ := X
  intro H locs ls hW hS hl
  exact lv_lload_n C.1 C.2.1 hd rfl (hl.2.2 _ _ h) (k H locs ls hW hS hl)
theorem g_lload (C : gCx E X cc own ret F L Mc Ms ini mL) {i : Nat} {x : Int64} (hd : decode cc pc = .ok (.lload i, 2)) (h : lv[i]? = some (some (.long x))) (k : gV E X q n G (pc + 2) lv (.long x :: st)) : gV E X q n G pc lv st := by
  obtain ⟨p, e, R, s, m, args, below, meth, c, Q, nL⟩ := X
  intro H locs ls hW hS hl
  exact lv_lload C.1 C.2.1 hd (hl.2.2 _ _ h) (k H locs ls hW hS hl)
theorem g_aload_n (C : gCx E X cc own ret F L Mc Ms ini mL) {z : Fin 4} {x : Nat} (hd : decode cc pc = .ok (.aload_n z, 1)) (h : lv[(z : Nat)]? = some (some (.ref x))) (k : gV E X q n G (pc + 1) lv (.ref x :: st)) : gV E X q n G pc lv st := by
  obtain ⟨p, e, R, s, m, args, below, meth, c, Q, nL⟩ := X
  intro H locs ls hW hS hl
  exact lv_aload_n C.1 C.2.1 hd rfl (hl.2.2 _ _ h) (k H locs ls hW hS hl)
theorem g_aload (C : gCx E X cc own ret F L Mc Ms ini mL) {i : Nat} {x : Nat} (hd : decode cc pc = .ok (.aload i, 2)) (h : lv[i]? = some (some (.ref x))) (k : gV E X q n G (pc + 2) lv (.ref x :: st)) : gV E X q n G pc lv st := by
  obtain ⟨p, e, R, s, m, args, below, meth, c, Q, nL⟩ := X
  intro H locs ls hW hS hl
  exact lv_aload C.1 C.2.1 hd (hl.2.2 _ _ h) (k H locs ls hW hS hl)
theorem g_istore_n (C : gCx E X cc own ret F L Mc Ms ini mL) {z : Fin 4} {x : Int32} {lv' : List (Option Value)} (hd : decode cc pc = .ok (.istore_n z, 1)) (hi : (z : Nat) < mL) (h : stv lv (z : Nat) (.int x) = lv') (k : gV E X q n G (pc + 1) lv' st) : gV E X q n G pc lv (.int x :: st) := by
  obtain ⟨p, e, R, s, m, args, below, meth, c, Q, nL⟩ := X
  intro H locs ls hW hS hl
  have hn : nL = mL := C.2.2.1.2
  refine lv_istore_n C.1 C.2.1 hd rfl hl.has (by rw [hn]; exact hi) rfl (fun ls' hl' => k H locs ls' hW hS ⟨hl'.1, hl'.2.1, fun j w hw => ?_⟩)
  rw [← h] at hw
  rcases stv_get _ _ _ _ _ hw with ⟨h1, h2⟩ | ⟨h1, h2, h3⟩
  · exact hl'.2.2 (j, w) (by rw [h1, h2]; exact List.mem_cons_self)
  · refine hl'.2.2 (j, w) (List.mem_cons_of_mem _ (List.mem_filter.mpr ⟨lvl_mem.mpr h1, ?_⟩))
    simp only [Bool.and_eq_true, Bool.not_eq_true', beq_eq_false_iff_ne, ne_eq, Bool.and_eq_false_iff]
    refine ⟨h2, ?_⟩
    by_cases hq : j + 1 = (z : Nat)
    · exact Or.inr (fun hc => h3 ⟨hq, hc⟩)
    · exact Or.inl hq
theorem g_istore (C : gCx E X cc own ret F L Mc Ms ini mL) {i : Nat} {x : Int32} {lv' : List (Option Value)} (hd : decode cc pc = .ok (.istore i, 2)) (hi : i < mL) (h : stv lv i (.int x) = lv') (k : gV E X q n G (pc + 2) lv' st) : gV E X q n G pc lv (.int x :: st) := by
  obtain ⟨p, e, R, s, m, args, below, meth, c, Q, nL⟩ := X
  intro H locs ls hW hS hl
  have hn : nL = mL := C.2.2.1.2
  refine lv_istore C.1 C.2.1 hd hl.has (by rw [hn]; exact hi) rfl (fun ls' hl' => k H locs ls' hW hS ⟨hl'.1, hl'.2.1, fun j w hw => ?_⟩)
  rw [← h] at hw
  rcases stv_get _ _ _ _ _ hw with ⟨h1, h2⟩ | ⟨h1, h2, h3⟩
  · exact hl'.2.2 (j, w) (by rw [h1, h2]; exact List.mem_cons_self)
  · refine hl'.2.2 (j, w) (List.mem_cons_of_mem _ (List.mem_filter.mpr ⟨lvl_mem.mpr h1, ?_⟩))
    simp only [Bool.and_eq_true, Bool.not_eq_true', beq_eq_false_iff_ne, ne_eq, Bool.and_eq_false_iff]
    refine ⟨h2, ?_⟩
    by_cases hq : j + 1 = i
    · exact Or.inr (fun hc => h3 ⟨hq, hc⟩)
    · exact Or.inl hq
theorem g_astore_n (C : gCx E X cc own ret F L Mc Ms ini mL) {z : Fin 4} {x : Nat} {lv' : List (Option Value)} (hd : decode cc pc = .ok (.astore_n z, 1)) (hi : (z : Nat) < mL) (h : stv lv (z : Nat) (.ref x) = lv') (k : gV E X q n G (pc + 1) lv' st) : gV E X q n G pc lv (.ref x :: st) := by
  obtain ⟨p, e, R, s, m, args, below, meth, c, Q, nL⟩ := X
  intro H locs ls hW hS hl
  have hn : nL = mL := C.2.2.1.2
  refine lv_astore_n C.1 C.2.1 hd rfl hl.has (by rw [hn]; exact hi) rfl (fun ls' hl' => k H locs ls' hW hS ⟨hl'.1, hl'.2.1, fun j w hw => ?_⟩)
  rw [← h] at hw
  rcases stv_get _ _ _ _ _ hw with ⟨h1, h2⟩ | ⟨h1, h2, h3⟩
  · exact hl'.2.2 (j, w) (by rw [h1, h2]; exact List.mem_cons_self)
  · refine hl'.2.2 (j, w) (List.mem_cons_of_mem _ (List.mem_filter.mpr ⟨lvl_mem.mpr h1, ?_⟩))
    simp only [Bool.and_eq_true, Bool.not_eq_true', beq_eq_false_iff_ne, ne_eq, Bool.and_eq_false_iff]
    refine ⟨h2, ?_⟩
    by_cases hq : j + 1 = (z : Nat)
    · exact Or.inr (fun hc => h3 ⟨hq, hc⟩)
    · exact Or.inl hq
theorem g_astore (C : gCx E X cc own ret F L Mc Ms ini mL) {i : Nat} {x : Nat} {lv' : List (Option Value)} (hd : decode cc pc = .ok (.astore i, 2)) (hi : i < mL) (h : stv lv i (.ref x) = lv') (k : gV E X q n G (pc + 2) lv' st) : gV E X q n G pc lv (.ref x :: st) := by
  obtain ⟨p, e, R, s, m, args, below, meth, c, Q, nL⟩ := X
  intro H locs ls hW hS hl
  have hn : nL = mL := C.2.2.1.2
  refine lv_astore C.1 C.2.1 hd hl.has (by rw [hn]; exact hi) rfl (fun ls' hl' => k H locs ls' hW hS ⟨hl'.1, hl'.2.1, fun j w hw => ?_⟩)
  rw [← h] at hw
  rcases stv_get _ _ _ _ _ hw with ⟨h1, h2⟩ | ⟨h1, h2, h3⟩
  · exact hl'.2.2 (j, w) (by rw [h1, h2]; exact List.mem_cons_self)
  · refine hl'.2.2 (j, w) (List.mem_cons_of_mem _ (List.mem_filter.mpr ⟨lvl_mem.mpr h1, ?_⟩))
    simp only [Bool.and_eq_true, Bool.not_eq_true', beq_eq_false_iff_ne, ne_eq, Bool.and_eq_false_iff]
    refine ⟨h2, ?_⟩
    by_cases hq : j + 1 = i
    · exact Or.inr (fun hc => h3 ⟨hq, hc⟩)
    · exact Or.inl hq
theorem g_lstore_n (C : gCx E X cc own ret F L Mc Ms ini mL) {z : Fin 4} {x : Int64} {lv' : List (Option Value)} (hd : decode cc pc = .ok (.lstore_n z, 1)) (hi : (z : Nat) + 1 < mL) (h : clr (stv lv (z : Nat) (.long x)) ((z : Nat) + 1) = lv') (k : gV E X q n G (pc + 1) lv' st) : gV E X q n G pc lv (.long x :: st) := by
  obtain ⟨p, e, R, s, m, args, below, meth, c, Q, nL⟩ := X
  intro H locs ls hW hS hl
  have hn : nL = mL := C.2.2.1.2
  refine lv_lstore_n C.1 C.2.1 hd rfl hl.has (by rw [hn]; exact hi) rfl (fun ls' hl' => k H locs ls' hW hS ⟨hl'.1, hl'.2.1, fun j w hw => ?_⟩)
  rw [← h] at hw
  obtain ⟨hw, h0⟩ := clr_get _ _ _ _ hw
  rcases stv_get _ _ _ _ _ hw with ⟨h1, h2⟩ | ⟨h1, h2, h3⟩
  · exact hl'.2.2 (j, w) (by rw [h1, h2]; exact List.mem_cons_self)
  · refine hl'.2.2 (j, w) (List.mem_cons_of_mem _ (List.mem_filter.mpr ⟨lvl_mem.mpr h1, ?_⟩))
    simp only [Bool.and_eq_true, Bool.not_eq_true', beq_eq_false_iff_ne, ne_eq, Bool.and_eq_false_iff]
    refine ⟨h2, h0, ?_⟩
    by_cases hq : j + 1 = (z : Nat)
    · exact Or.inr (fun hc => h3 ⟨hq, hc⟩)
    · exact Or.inl hq
theorem g_lstore (C : gCx E X cc own ret F L Mc Ms ini mL) {i : Nat} {x : Int64} {lv' : List (Option Value)} (hd : decode cc pc = .ok (.lstore i, 2)) (hi : i + 1 < mL) (h : clr (stv lv i (.long x)) (i + 1) = lv') (k : gV E X q n G (pc + 2) lv' st) : gV E X q n G pc lv (.long x :: st) := by
  obtain ⟨p, e, R, s, m, args, below, meth, c, Q, nL⟩ := X
  intro H locs ls hW hS hl
  have hn : nL = mL := C.2.2.1.2
  refine lv_lstore C.1 C.2.1 hd hl.has (by rw [hn]; exact hi) rfl (fun ls' hl' => k H locs ls' hW hS ⟨hl'.1, hl'.2.1, fun j w hw => ?_⟩)
  rw [← h] at hw
  obtain ⟨hw, h0⟩ := clr_get _ _ _ _ hw
  rcases stv_get _ _ _ _ _ hw with ⟨h1, h2⟩ | ⟨h1, h2, h3⟩
  · exact hl'.2.2 (j, w) (by rw [h1, h2]; exact List.mem_cons_self)
  · refine hl'.2.2 (j, w) (List.mem_cons_of_mem _ (List.mem_filter.mpr ⟨lvl_mem.mpr h1, ?_⟩))
    simp only [Bool.and_eq_true, Bool.not_eq_true', beq_eq_false_iff_ne, ne_eq, Bool.and_eq_false_iff]
    refine ⟨h2, h0, ?_⟩
    by_cases hq : j + 1 = i
    · exact Or.inr (fun hc => h3 ⟨hq, hc⟩)
    · exact Or.inl hq
theorem g_iinc (C : gCx E X cc own ret F L Mc Ms ini mL) {i : Nat} {z : Int} {x v : Int32} {lv' : List (Option Value)} (hd : decode cc pc = .ok (.iinc i z, 3)) (hi : i < mL) (hx : lv[i]? = some (some (.int x))) (hv : x + Int32.ofInt z = v) (h : stv lv i (.int v) = lv') (k : gV E X q n G (pc + 3) lv' st) : gV E X q n G pc lv st := by
  obtain ⟨p, e, R, s, m, args, below, meth, c, Q, nL⟩ := X
  intro H locs ls hW hS hl
  have hn : nL = mL := C.2.2.1.2
  obtain ⟨j0, hj0⟩ := List.getElem?_of_mem ((lvl_mem (q := (i, .int x))).mpr hx)
  refine lv_iinc C.1 C.2.1 hd hl.has hj0 hv (by rw [hn]; exact hi) rfl (fun ls' hl' => k H locs ls' hW hS ⟨hl'.1, hl'.2.1, fun j w hw => ?_⟩)
  rw [← h] at hw
  rcases stv_get _ _ _ _ _ hw with ⟨h1, h2⟩ | ⟨h1, h2, h3⟩
  · exact hl'.2.2 (j, w) (by rw [h1, h2]; exact List.mem_cons_self)
  · refine hl'.2.2 (j, w) (List.mem_cons_of_mem _ (List.mem_filter.mpr ⟨lvl_mem.mpr h1, ?_⟩))
    simp only [Bool.and_eq_true, Bool.not_eq_true', beq_eq_false_iff_ne, ne_eq, Bool.and_eq_false_iff]
    refine ⟨h2, ?_⟩
    by_cases hq : j + 1 = i
    · exact Or.inr (fun hc => h3 ⟨hq, hc⟩)
    · exact Or.inl hq
theorem g_iadd (C : gCx E X cc own ret F L Mc Ms ini mL) {x y : Int32} (hd : decode cc pc = .ok (.iadd, 1))  (k : gV E X q n G (pc + 1) lv (.int (x + y) :: st)) : gV E X q n G pc lv (.int y :: .int x :: st) := by
  obtain ⟨p, e, R, s, m, args, below, meth, c, Q, nL⟩ := X
  intro H locs ls hW hS hl
  exact lv_iadd C.1 C.2.1 hd (k H locs ls hW hS hl)
theorem g_isub (C : gCx E X cc own ret F L Mc Ms ini mL) {x y : Int32} (hd : decode cc pc = .ok (.isub, 1))  (k : gV E X q n G (pc + 1) lv (.int (x - y) :: st)) : gV E X q n G pc lv (.int y :: .int x :: st) := by
  obtain ⟨p, e, R, s, m, args, below, meth, c, Q, nL⟩ := X
  intro H locs ls hW hS hl
  exact lv_isub C.1 C.2.1 hd (k H locs ls hW hS hl)
theorem g_imul (C : gCx E X cc own ret F L Mc Ms ini mL) {x y : Int32} (hd : decode cc pc = .ok (.imul, 1))  (k : gV E X q n G (pc + 1) lv (.int (x * y) :: st)) : gV E X q n G pc lv (.int y :: .int x :: st) := by
  obtain ⟨p, e, R, s, m, args, below, meth, c, Q, nL⟩ := X
  intro H locs ls hW hS hl
  exact lv_imul C.1 C.2.1 hd (k H locs ls hW hS hl)
theorem g_iand (C : gCx E X cc own ret F L Mc Ms ini mL) {x y : Int32} (hd : decode cc pc = .ok (.iand, 1))  (k : gV E X q n G (pc + 1) lv (.int (x &&& y) :: st)) : gV E X q n G pc lv (.int y :: .int x :: st) := by
  obtain ⟨p, e, R, s, m, args, below, meth, c, Q, nL⟩ := X
  intro H locs ls hW hS hl
  exact lv_iand C.1 C.2.1 hd (k H locs ls hW hS hl)
theorem g_ior (C : gCx E X cc own ret F L Mc Ms ini mL) {x y : Int32} (hd : decode cc pc = .ok (.ior, 1))  (k : gV E X q n G (pc + 1) lv (.int (x ||| y) :: st)) : gV E X q n G pc lv (.int y :: .int x :: st) := by
  obtain ⟨p, e, R, s, m, args, below, meth, c, Q, nL⟩ := X
  intro H locs ls hW hS hl
  exact lv_ior C.1 C.2.1 hd (k H locs ls hW hS hl)
theorem g_ixor (C : gCx E X cc own ret F L Mc Ms ini mL) {x y : Int32} (hd : decode cc pc = .ok (.ixor, 1))  (k : gV E X q n G (pc + 1) lv (.int (x ^^^ y) :: st)) : gV E X q n G pc lv (.int y :: .int x :: st) := by
  obtain ⟨p, e, R, s, m, args, below, meth, c, Q, nL⟩ := X
  intro H locs ls hW hS hl
  exact lv_ixor C.1 C.2.1 hd (k H locs ls hW hS hl)
theorem g_ishl (C : gCx E X cc own ret F L Mc Ms ini mL) {x y : Int32} (hd : decode cc pc = .ok (.ishl, 1))  (k : gV E X q n G (pc + 1) lv (.int (x <<< (y &&& 31)) :: st)) : gV E X q n G pc lv (.int y :: .int x :: st) := by
  obtain ⟨p, e, R, s, m, args, below, meth, c, Q, nL⟩ := X
  intro H locs ls hW hS hl
  exact lv_ishl C.1 C.2.1 hd (k H locs ls hW hS hl)
theorem g_ishr (C : gCx E X cc own ret F L Mc Ms ini mL) {x y : Int32} (hd : decode cc pc = .ok (.ishr, 1))  (k : gV E X q n G (pc + 1) lv (.int (x >>> (y &&& 31)) :: st)) : gV E X q n G pc lv (.int y :: .int x :: st) := by
  obtain ⟨p, e, R, s, m, args, below, meth, c, Q, nL⟩ := X
  intro H locs ls hW hS hl
  exact lv_ishr C.1 C.2.1 hd (k H locs ls hW hS hl)
theorem g_ladd (C : gCx E X cc own ret F L Mc Ms ini mL) {x y : Int64} (hd : decode cc pc = .ok (.ladd, 1))  (k : gV E X q n G (pc + 1) lv (.long (x + y) :: st)) : gV E X q n G pc lv (.long y :: .long x :: st) := by
  obtain ⟨p, e, R, s, m, args, below, meth, c, Q, nL⟩ := X
  intro H locs ls hW hS hl
  exact lv_ladd C.1 C.2.1 hd (k H locs ls hW hS hl)
theorem g_lsub (C : gCx E X cc own ret F L Mc Ms ini mL) {x y : Int64} (hd : decode cc pc = .ok (.lsub, 1))  (k : gV E X q n G (pc + 1) lv (.long (x - y) :: st)) : gV E X q n G pc lv (.long y :: .long x :: st) := by
  obtain ⟨p, e, R, s, m, args, below, meth, c, Q, nL⟩ := X
  intro H locs ls hW hS hl
  exact lv_lsub C.1 C.2.1 hd (k H locs ls hW hS hl)
theorem g_lmul (C : gCx E X cc own ret F L Mc Ms ini mL) {x y : Int64} (hd : decode cc pc = .ok (.lmul, 1))  (k : gV E X q n G (pc + 1) lv (.long (x * y) :: st)) : gV E X q n G pc lv (.long y :: .long x :: st) := by
  obtain ⟨p, e, R, s, m, args, below, meth, c, Q, nL⟩ := X
  intro H locs ls hW hS hl
  exact lv_lmul C.1 C.2.1 hd (k H locs ls hW hS hl)
theorem g_land (C : gCx E X cc own ret F L Mc Ms ini mL) {x y : Int64} (hd : decode cc pc = .ok (.land, 1))  (k : gV E X q n G (pc + 1) lv (.long (x &&& y) :: st)) : gV E X q n G pc lv (.long y :: .long x :: st) := by
  obtain ⟨p, e, R, s, m, args, below, meth, c, Q, nL⟩ := X
  intro H locs ls hW hS hl
  exact lv_land C.1 C.2.1 hd (k H locs ls hW hS hl)
theorem g_lor (C : gCx E X cc own ret F L Mc Ms ini mL) {x y : Int64} (hd : decode cc pc = .ok (.lor, 1))  (k : gV E X q n G (pc + 1) lv (.long (x ||| y) :: st)) : gV E X q n G pc lv (.long y :: .long x :: st) := by
  obtain ⟨p, e, R, s, m, args, below, meth, c, Q, nL⟩ := X
  intro H locs ls hW hS hl
  exact lv_lor C.1 C.2.1 hd (k H locs ls hW hS hl)
theorem g_lxor (C : gCx E X cc own ret F L Mc Ms ini mL) {x y : Int64} (hd : decode cc pc = .ok (.lxor, 1))  (k : gV E X q n G (pc + 1) lv (.long (x ^^^ y) :: st)) : gV E X q n G pc lv (.long y :: .long x :: st) := by
  obtain ⟨p, e, R, s, m, args, below, meth, c, Q, nL⟩ := X
  intro H locs ls hW hS hl
  exact lv_lxor C.1 C.2.1 hd (k H locs ls hW hS hl)
theorem g_idiv (C : gCx E X cc own ret F L Mc Ms ini mL) {x y : Int32} (hd : decode cc pc = .ok (.idiv, 1)) (hy : ¬ y = 0) (k : gV E X q n G (pc + 1) lv (.int (x / y) :: st)) : gV E X q n G pc lv (.int y :: .int x :: st) := by
  obtain ⟨p, e, R, s, m, args, below, meth, c, Q, nL⟩ := X
  intro H locs ls hW hS hl
  exact lv_idiv C.1 C.2.1 hd hy (k H locs ls hW hS hl)
theorem g_irem (C : gCx E X cc own ret F L Mc Ms ini mL) {x y : Int32} (hd : decode cc pc = .ok (.irem, 1)) (hy : ¬ y = 0) (k : gV E X q n G (pc + 1) lv (.int (x - x / y * y) :: st)) : gV E X q n G pc lv (.int y :: .int x :: st) := by
  obtain ⟨p, e, R, s, m, args, below, meth, c, Q, nL⟩ := X
  intro H locs ls hW hS hl
  exact lv_irem C.1 C.2.1 hd hy (k H locs ls hW hS hl)
theorem g_ldiv (C : gCx E X cc own ret F L Mc Ms ini mL) {x y : Int64} (hd : decode cc pc = .ok (.ldiv, 1)) (hy : ¬ y = 0) (k : gV E X q n G (pc + 1) lv (.long (x / y) :: st)) : gV E X q n G pc lv (.long y :: .long x :: st) := by
  obtain ⟨p, e, R, s, m, args, below, meth, c, Q, nL⟩ := X
  intro H locs ls hW hS hl
  exact lv_ldiv C.1 C.2.1 hd hy (k H locs ls hW hS hl)
theorem g_lrem (C : gCx E X cc own ret F L Mc Ms ini mL) {x y : Int64} (hd : decode cc pc = .ok (.lrem, 1)) (hy : ¬ y = 0) (k : gV E X q n G (pc + 1) lv (.long (x - x / y * y) :: st)) : gV E X q n G pc lv (.long y :: .long x :: st) := by
  obtain ⟨p, e, R, s, m, args, below, meth, c, Q, nL⟩ := X
  intro H locs ls hW hS hl
  exact lv_lrem C.1 C.2.1 hd hy (k H locs ls hW hS hl)
theorem g_ineg (C : gCx E X cc own ret F L Mc Ms ini mL) {x : Int32} (hd : decode cc pc = .ok (.ineg, 1))  (k : gV E X q n G (pc + 1) lv (.int (-x) :: st)) : gV E X q n G pc lv (.int x :: st) := by
  obtain ⟨p, e, R, s, m, args, below, meth, c, Q, nL⟩ := X
  intro H locs ls hW hS hl
  exact lv_ineg C.1 C.2.1 hd (k H locs ls hW hS hl)
theorem g_i2l (C : gCx E X cc own ret F L Mc Ms ini mL) {x : Int32} (hd : decode cc pc = .ok (.i2l, 1))  (k : gV E X q n G (pc + 1) lv (.long x.toInt64 :: st)) : gV E X q n G pc lv (.int x :: st) := by
  obtain ⟨p, e, R, s, m, args, below, meth, c, Q, nL⟩ := X
  intro H locs ls hW hS hl
  exact lv_i2l C.1 C.2.1 hd rfl (k H locs ls hW hS hl)
theorem g_l2i (C : gCx E X cc own ret F L Mc Ms ini mL) {x : Int64} (hd : decode cc pc = .ok (.l2i, 1))  (k : gV E X q n G (pc + 1) lv (.int x.toInt32 :: st)) : gV E X q n G pc lv (.long x :: st) := by
  obtain ⟨p, e, R, s, m, args, below, meth, c, Q, nL⟩ := X
  intro H locs ls hW hS hl
  exact lv_l2i C.1 C.2.1 hd rfl (k H locs ls hW hS hl)
theorem g_lshl (C : gCx E X cc own ret F L Mc Ms ini mL) {x : Int64} {y : Int32} (hd : decode cc pc = .ok (.lshl, 1))  (k : gV E X q n G (pc + 1) lv (.long (x <<< (y.toInt64 &&& 63)) :: st)) : gV E X q n G pc lv (.int y :: .long x :: st) := by
  obtain ⟨p, e, R, s, m, args, below, meth, c, Q, nL⟩ := X
  intro H locs ls hW hS hl
  exact lv_lshl C.1 C.2.1 hd rfl (k H locs ls hW hS hl)
theorem g_lushr (C : gCx E X cc own ret F L Mc Ms ini mL) {x : Int64} {y : Int32} (hd : decode cc pc = .ok (.lushr, 1))  (k : gV E X q n G (pc + 1) lv (.long (x.toUInt64 >>> (y.toInt64.toUInt64 &&& Int64.toUInt64 63)).toInt64 :: st)) : gV E X q n G pc lv (.int y :: .long x :: st) := by
  obtain ⟨p, e, R, s, m, args, below, meth, c, Q, nL⟩ := X
  intro H locs ls hW hS hl
  exact lv_lushr C.1 C.2.1 hd rfl (k H locs ls hW hS hl)
theorem g_lcmp (C : gCx E X cc own ret F L Mc Ms ini mL) {x y : Int64} (hd : decode cc pc = .ok (.lcmp, 1))  (k : gV E X q n G (pc + 1) lv (.int (lg_cmp x y) :: st)) : gV E X q n G pc lv (.long y :: .long x :: st) := by
  obtain ⟨p, e, R, s, m, args, below, meth, c, Q, nL⟩ := X
  intro H locs ls hW hS hl
  exact W.lcmp C.1 C.2.1 hd (k H locs ls hW hS hl)
theorem g_dup (C : gCx E X cc own ret F L Mc Ms ini mL) {va : Value} (hd : decode cc pc = .ok (.dup, 1)) (hv : va.category = 1) (k : gV E X q n G (pc + 1) lv (va :: va :: st)) : gV E X q n G pc lv (va :: st) := by
  obtain ⟨p, e, R, s, m, args, below, meth, c, Q, nL⟩ := X
  intro H locs ls hW hS hl
  exact lv_dup C.1 C.2.1 hd hv (k H locs ls hW hS hl)
theorem g_dup2 (C : gCx E X cc own ret F L Mc Ms ini mL) {va vb : Value} (hd : decode cc pc = .ok (.dup2, 1)) (hv : va.category = 1) (hw : vb.category = 1) (k : gV E X q n G (pc + 1) lv (va :: vb :: va :: vb :: st)) : gV E X q n G pc lv (va :: vb :: st) := by
  obtain ⟨p, e, R, s, m, args, below, meth, c, Q, nL⟩ := X
  intro H locs ls hW hS hl
  exact lv_dup2_11 C.1 C.2.1 hd hv hw (k H locs ls hW hS hl)
theorem g_pop (C : gCx E X cc own ret F L Mc Ms ini mL) {va : Value} (hd : decode cc pc = .ok (.pop, 1)) (hv : va.category = 1) (k : gV E X q n G (pc + 1) lv (st)) : gV E X q n G pc lv (va :: st) := by
  obtain ⟨p, e, R, s, m, args, below, meth, c, Q, nL⟩ := X
  intro H locs ls hW hS hl
  exact lv_pop C.1 C.2.1 hd hv (k H locs ls hW hS hl)
theorem g_if_eq (C : gCx E X cc own ret F L Mc Ms ini mL) {x : Int32} {off : Int} {tgt : Nat} (hd : decode cc pc = .ok (.ifCond .eq off, 3)) (ht : (pc : Int) + off = (tgt : Int)) (kt : x = 0 → gV E X q n G tgt lv st) (kf : ¬ x = 0 → gV E X q n G (pc + 3) lv st) : gV E X q n G pc lv (.int x :: st) := by
  obtain ⟨p, e, R, s, m, args, below, meth, c, Q, nL⟩ := X
  intro H locs ls hW hS hl
  exact lv_if_eq C.1 C.2.1 hd ht (fun h => kt h H locs ls hW hS hl) (fun h => kf h H locs ls hW hS hl)
theorem g_icmp_eq (C : gCx E X cc own ret F L Mc Ms ini mL) {x y : Int32} {off : Int} {tgt : Nat} (hd : decode cc pc = .ok (.if_icmp .eq off, 3)) (ht : (pc : Int) + off = (tgt : Int)) (kt : x = y → gV E X q n G tgt lv st) (kf : ¬ x = y → gV E X q n G (pc + 3) lv st) : gV E X q n G pc lv (.int y :: .int x :: st) := by
  obtain ⟨p, e, R, s, m, args, below, meth, c, Q, nL⟩ := X
  intro H locs ls hW hS hl
  exact lv_icmp_eq C.1 C.2.1 hd ht (fun h => kt h H locs ls hW hS hl) (fun h => kf h H locs ls hW hS hl)
theorem g_if_ne (C : gCx E X cc own ret F L Mc Ms ini mL) {x : Int32} {off : Int} {tgt : Nat} (hd : decode cc pc = .ok (.ifCond .ne off, 3)) (ht : (pc : Int) + off = (tgt : Int)) (kt : ¬ x = 0 → gV E X q n G tgt lv st) (kf : x = 0 → gV E X q n G (pc + 3) lv st) : gV E X q n G pc lv (.int x :: st) := by
  obtain ⟨p, e, R, s, m, args, below, meth, c, Q, nL⟩ := X
  intro H locs ls hW hS hl
  exact lv_if_ne C.1 C.2.1 hd ht (fun h => kt h H locs ls hW hS hl) (fun h => kf h H locs ls hW hS hl)
theorem g_icmp_ne (C : gCx E X cc own ret F L Mc Ms ini mL) {x y : Int32} {off : Int} {tgt : Nat} (hd : decode cc pc = .ok (.if_icmp .ne off, 3)) (ht : (pc : Int) + off = (tgt : Int)) (kt : ¬ x = y → gV E X q n G tgt lv st) (kf : x = y → gV E X q n G (pc + 3) lv st) : gV E X q n G pc lv (.int y :: .int x :: st) := by
  obtain ⟨p, e, R, s, m, args, below, meth, c, Q, nL⟩ := X
  intro H locs ls hW hS hl
  exact lv_icmp_ne C.1 C.2.1 hd ht (fun h => kt h H locs ls hW hS hl) (fun h => kf h H locs ls hW hS hl)
theorem g_if_lt (C : gCx E X cc own ret F L Mc Ms ini mL) {x : Int32} {off : Int} {tgt : Nat} (hd : decode cc pc = .ok (.ifCond .lt off, 3)) (ht : (pc : Int) + off = (tgt : Int)) (kt : x < 0 → gV E X q n G tgt lv st) (kf : ¬ x < 0 → gV E X q n G (pc + 3) lv st) : gV E X q n G pc lv (.int x :: st) := by
  obtain ⟨p, e, R, s, m, args, below, meth, c, Q, nL⟩ := X
  intro H locs ls hW hS hl
  exact lv_if_lt C.1 C.2.1 hd ht (fun h => kt h H locs ls hW hS hl) (fun h => kf h H locs ls hW hS hl)
theorem g_icmp_lt (C : gCx E X cc own ret F L Mc Ms ini mL) {x y : Int32} {off : Int} {tgt : Nat} (hd : decode cc pc = .ok (.if_icmp .lt off, 3)) (ht : (pc : Int) + off = (tgt : Int)) (kt : x < y → gV E X q n G tgt lv st) (kf : ¬ x < y → gV E X q n G (pc + 3) lv st) : gV E X q n G pc lv (.int y :: .int x :: st) := by
  obtain ⟨p, e, R, s, m, args, below, meth, c, Q, nL⟩ := X
  intro H locs ls hW hS hl
  exact lv_icmp_lt C.1 C.2.1 hd ht (fun h => kt h H locs ls hW hS hl) (fun h => kf h H locs ls hW hS hl)
theorem g_if_ge (C : gCx E X cc own ret F L Mc Ms ini mL) {x : Int32} {off : Int} {tgt : Nat} (hd : decode cc pc = .ok (.ifCond .ge off, 3)) (ht : (pc : Int) + off = (tgt : Int)) (kt : 0 ≤ x → gV E X q n G tgt lv st) (kf : ¬ 0 ≤ x → gV E X q n G (pc + 3) lv st) : gV E X q n G pc lv (.int x :: st) := by
  obtain ⟨p, e, R, s, m, args, below, meth, c, Q, nL⟩ := X
  intro H locs ls hW hS hl
  exact lv_if_ge C.1 C.2.1 hd ht (fun h => kt h H locs ls hW hS hl) (fun h => kf h H locs ls hW hS hl)
theorem g_icmp_ge (C : gCx E X cc own ret F L Mc Ms ini mL) {x y : Int32} {off : Int} {tgt : Nat} (hd : decode cc pc = .ok (.if_icmp .ge off, 3)) (ht : (pc : Int) + off = (tgt : Int)) (kt : y ≤ x → gV E X q n G tgt lv st) (kf : ¬ y ≤ x → gV E X q n G (pc + 3) lv st) : gV E X q n G pc lv (.int y :: .int x :: st) := by
  obtain ⟨p, e, R, s, m, args, below, meth, c, Q, nL⟩ := X
  intro H locs ls hW hS hl
  exact lv_icmp_ge C.1 C.2.1 hd ht (fun h => kt h H locs ls hW hS hl) (fun h => kf h H locs ls hW hS hl)
theorem g_if_gt (C : gCx E X cc own ret F L Mc Ms ini mL) {x : Int32} {off : Int} {tgt : Nat} (hd : decode cc pc = .ok (.ifCond .gt off, 3)) (ht : (pc : Int) + off = (tgt : Int)) (kt : 0 < x → gV E X q n G tgt lv st) (kf : ¬ 0 < x → gV E X q n G (pc + 3) lv st) : gV E X q n G pc lv (.int x :: st) := by
  obtain ⟨p, e, R, s, m, args, below, meth, c, Q, nL⟩ := X
  intro H locs ls hW hS hl
  exact lv_if_gt C.1 C.2.1 hd ht (fun h => kt h H locs ls hW hS hl) (fun h => kf h H locs ls hW hS hl)
theorem g_icmp_gt (C : gCx E X cc own ret F L Mc Ms ini mL) {x y : Int32} {off : Int} {tgt : Nat} (hd : decode cc pc = .ok (.if_icmp .gt off, 3)) (ht : (pc : Int) + off = (tgt : Int)) (kt : y < x → gV E X q n G tgt lv st) (kf : ¬ y < x → gV E X q n G (pc + 3) lv st) : gV E X q n G pc lv (.int y :: .int x :: st) := by
  obtain ⟨p, e, R, s, m, args, below, meth, c, Q, nL⟩ := X
  intro H locs ls hW hS hl
  exact lv_icmp_gt C.1 C.2.1 hd ht (fun h => kt h H locs ls hW hS hl) (fun h => kf h H locs ls hW hS hl)
theorem g_if_le (C : gCx E X cc own ret F L Mc Ms ini mL) {x : Int32} {off : Int} {tgt : Nat} (hd : decode cc pc = .ok (.ifCond .le off, 3)) (ht : (pc : Int) + off = (tgt : Int)) (kt : x ≤ 0 → gV E X q n G tgt lv st) (kf : ¬ x ≤ 0 → gV E X q n G (pc + 3) lv st) : gV E X q n G pc lv (.int x :: st) := by
  obtain ⟨p, e, R, s, m, args, below, meth, c, Q, nL⟩ := X
  intro H locs ls hW hS hl
  exact lv_if_le C.1 C.2.1 hd ht (fun h => kt h H locs ls hW hS hl) (fun h => kf h H locs ls hW hS hl)
theorem g_icmp_le (C : gCx E X cc own ret F L Mc Ms ini mL) {x y : Int32} {off : Int} {tgt : Nat} (hd : decode cc pc = .ok (.if_icmp .le off, 3)) (ht : (pc : Int) + off = (tgt : Int)) (kt : x ≤ y → gV E X q n G tgt lv st) (kf : ¬ x ≤ y → gV E X q n G (pc + 3) lv st) : gV E X q n G pc lv (.int y :: .int x :: st) := by
  obtain ⟨p, e, R, s, m, args, below, meth, c, Q, nL⟩ := X
  intro H locs ls hW hS hl
  exact lv_icmp_le C.1 C.2.1 hd ht (fun h => kt h H locs ls hW hS hl) (fun h => kf h H locs ls hW hS hl)
theorem g_goto (C : gCx E X cc own ret F L Mc Ms ini mL) {off : Int} {tgt : Nat} (hd : decode cc pc = .ok (.goto off, 3)) (ht : (pc : Int) + off = (tgt : Int)) (k : gV E X q n G tgt lv st) : gV E X q n G pc lv st := by
  obtain ⟨p, e, R, s, m, args, below, meth, c, Q, nL⟩ := X
  intro H locs ls hW hS hl
  exact lv_goto C.1 C.2.1 hd ht (k H locs ls hW hS hl)
theorem g_tabIn (C : gCx E X cc own ret F L Mc Ms ini mL) {dflt lo hi : Int} {offs : Array Int} {len : Nat} {x : Int32} {off : Int} {tgt : Nat} (hd : decode cc pc = .ok (.tableswitch dflt lo hi offs, len)) (z : Int) (hx : x.toInt = z) (h1 : ¬ z < lo) (h2 : ¬ hi < z) (ho : offs[(z - lo).toNat]? = some off) (ht : (pc : Int) + off = (tgt : Int)) (k : gV E X q n G tgt lv st) : gV E X q n G pc lv (.int x :: st) := by
  obtain ⟨p, e, R, s, m, args, below, meth, c, Q, nL⟩ := X
  intro H locs ls hW hS hl
  subst hx
  exact lv_tableIn C.1 C.2.1 hd h1 h2 ho ht (k H locs ls hW hS hl)
theorem g_tabOut (C : gCx E X cc own ret F L Mc Ms ini mL) {dflt lo hi : Int} {offs : Array Int} {len : Nat} {x : Int32} {tgt : Nat} (hd : decode cc pc = .ok (.tableswitch dflt lo hi offs, len)) (h : x.toInt < lo ∨ hi < x.toInt) (ht : (pc : Int) + dflt = (tgt : Int)) (k : gV E X q n G tgt lv st) : gV E X q n G pc lv (.int x :: st) := by
  obtain ⟨p, e, R, s, m, args, below, meth, c, Q, nL⟩ := X
  intro H locs ls hW hS hl
  exact lv_tableOut C.1 C.2.1 hd h ht (k H locs ls hW hS hl)
/-- fewer locals are known from here on -/
theorem g_sub {lv' : List (Option Value)} (h : lvs lv lv') (k : gV E X q n G pc lv' st) : gV E X q n G pc lv st := by
  obtain ⟨p, e, R, s, m, args, below, meth, c, Q, nL⟩ := X
  intro H locs ls hW hS hl
  exact k H locs ls hW hS (hl.sub (lvs_get _ _ h))
theorem g_wide {q' n' : Nat} (hq : q ≤ q') (hn : n ≤ n') (k : gV E X q' n' G pc lv st) : gV E X q n G pc lv st := by
  obtain ⟨p, e, R, s, m, args, below, meth, c, Q, nL⟩ := X
  intro H locs ls hW hS hl
  exact W.widen hq hn (k H locs ls hW hS hl)
end GR
end
section
/-! ===== fields ===== -/
/-- a link of an own field: class ci's slot k, of type ty, code t in fty -/
def FL (own : String) (idx ci k t : Nat) (fin : Bool) (ty : FieldType) : Prop := ∃ (C : String) (T : u_T) (N : Nat) (t0 : Nat → FieldType), vwCl[ci]? = some (C, T, N) ∧ (∀ w ∈ u_ws C T N, w ∈ TB) ∧ (∀ j, j < N → parseFieldDescriptor (T j).2.2.1 = some (t0 j)) ∧ (∀ a, a < N → ∀ b, b < N → a ≠ b → (T a).2.1 ≠ (T b).2.1) ∧ k < N ∧ t0 k = ty ∧ (T k).2.2.2 = fin ∧ (fin = true → (T k).1 = own) ∧ Cond.fieldLink own idx (T k).1 (T k).2.1 (T k).2.2.1 ∈ TB ∧ (fty ci)[k]? = some t ∧ ci < 11
theorem FL.mk' {own : String} {idx ci k t : Nat} {fin : Bool} {ty : FieldType} (C : String) (T : u_T) (N : Nat) (t0 : Nat → FieldType) (h1 : vwCl[ci]? = some (C, T, N)) (h2 : ∀ w ∈ u_ws C T N, w ∈ TB) (h3 : ∀ j, j < N → parseFieldDescriptor (T j).2.2.1 = some (t0 j)) (h4 : ∀ a, a < N → ∀ b, b < N → a ≠ b → (T a).2.1 ≠ (T b).2.1) (h5 : k < N) (h6 : t0 k = ty) (h7 : (T k).2.2.2 = fin) (h8 : fin = true → (T k).1 = own) (h9 : Cond.fieldLink own idx (T k).1 (T k).2.1 (T k).2.2.1 ∈ TB) (h10 : (fty ci)[k]? = some t) (h11 : ci < 11) : FL own idx ci k t fin ty := ⟨C, T, N, t0, h1, h2, h3, h4, h5, h6, h7, h8, h9, h10, h11⟩
section GH
variable {E : EE} {X : CT} {cc : ByteArray} {own : String} {ret : Option FieldType} {F L Mc Ms : Nat} {ini : Bool} {mL : Nat} {q n : Nat} {G : Hp} {pc : Nat} {lv : List (Option Value)} {st : List Value}
theorem g_get (C : gCx E X cc own ret F L Mc Ms ini mL) {idx ci k t a : Nat} {fin : Bool} {ty : FieldType} (hF : FL own idx ci k t fin ty) (hd : decode cc pc = .ok (.getfield idx, 3)) (hg : a < h_n G ∧ h_k G a = ci) (kk : gV E X q n G (pc + 3) lv (f_v E.2.1 G a t k :: st)) : gV E X q n G pc lv (.ref (E.2.1 + a) :: st) := by
  obtain ⟨p, e, R, s, m, args, below, meth, c, Q, nL⟩ := X
  intro H locs ls hW hS hl
  obtain ⟨C0, T, N, t0, h1, h2, h3, h4, h5, h6, h7, h8, h9, h10, h11⟩ := hF
  have he : (g_wl E G)[a]? = some (E.2.1 + a, .inr (ci, f_go (f_v E.2.1 G a) (fty ci) 0)) := by rw [wl_get hg.1, ent_o hg.2 h11]
  exact va_get C.1 C.2.1 C.2.2.2.2.1 h2 C.2.2.2.1 C.2.2.2.2.2.1.1 hW.1 a he h1 k h5 (C.2.2.2.2.1 _ h9) (by
    have : (T k).1 = (T k).1 := rfl
    exact fun x hx => hx) (by rw [f_go_get, h10]; simp) hd (kk H locs ls hW hS hl)
theorem g_getI (C : gCx E X cc own ret F L Mc Ms ini mL) {idx ci k a : Nat} {fin : Bool} {ty : FieldType} (hF : FL own idx ci k 0 fin ty) (hd : decode cc pc = .ok (.getfield idx, 3)) (hg : a < h_n G ∧ h_k G a = ci) (kk : gV E X q n G (pc + 3) lv (.int (h_i G a k) :: st)) : gV E X q n G pc lv (.ref (E.2.1 + a) :: st) := g_get C hF hd hg kk
theorem g_getL (C : gCx E X cc own ret F L Mc Ms ini mL) {idx ci k a : Nat} {fin : Bool} {ty : FieldType} (hF : FL own idx ci k 1 fin ty) (hd : decode cc pc = .ok (.getfield idx, 3)) (hg : a < h_n G ∧ h_k G a = ci) (kk : gV E X q n G (pc + 3) lv (.long (h_l G a k) :: st)) : gV E X q n G pc lv (.ref (E.2.1 + a) :: st) := g_get C hF hd hg kk
theorem g_getR (C : gCx E X cc own ret F L Mc Ms ini mL) {idx ci k a r : Nat} {fin : Bool} {ty : FieldType} (hF : FL own idx ci k 2 fin ty) (hd : decode cc pc = .ok (.getfield idx, 3)) (hg : (a < h_n G ∧ h_k G a = ci) ∧ h_r G a k = some r) (kk : gV E X q n G (pc + 3) lv (.ref (E.2.1 + r) :: st)) : gV E X q n G pc lv (.ref (E.2.1 + a) :: st) := by
  refine g_get C hF hd hg.1 ?_
  have e : f_v E.2.1 G a 2 k = .ref (E.2.1 + r) := by
    show va_rf ((h_r G a k).map (fun q => E.2.1 + q)) = _
    rw [hg.2]
    rfl
  rw [e]
  exact kk
theorem g_put (C : gCx E X cc own ret F L Mc Ms ini mL) {idx ci k t a : Nat} {fin : Bool} {ty : FieldType} {v : Value} {G' : Hp} (hF : FL own idx ci k t fin ty) (hd : decode cc pc = .ok (.putfield idx, 3)) (hg : a < h_n G ∧ h_k G a = ci) (hfi : fin = false ∨ ini = true) (hn : narrow ty v = v) (hfit : fits ty v = true) (g1 : h_n G' = h_n G) (g2 : ∀ b, h_k G' b = h_k G b) (g3 : f_v E.2.1 G' a t k = v) (g4 : ∀ t' j, j ≠ k → f_v E.2.1 G' a t' j = f_v E.2.1 G a t' j) (g5 : ∀ b, b ≠ a → ∀ t' j, f_v E.2.1 G' b t' j = f_v E.2.1 G b t' j) (g6 : ∀ b, h_z G' b = h_z G b ∧ h_a G' b = h_a G b) (kk : gV E X q n G' (pc + 3) lv st) : gV E X q n G pc lv (v :: .ref (E.2.1 + a) :: st) := by
  obtain ⟨p, e, R, s, m, args, below, meth, c, Q, nL⟩ := X
  intro H locs ls hW hS hl
  obtain ⟨C0, T, N, t0, h1, h2, h3, h4, h5, h6, h7, h8, h9, h10, h11⟩ := hF
  have he : (g_wl E G)[a]? = some (E.2.1 + a, .inr (ci, f_go (f_v E.2.1 G a) (fty ci) 0)) := by rw [wl_get hg.1, ent_o hg.2 h11]
  have hset : (g_wl E G).set a (E.2.1 + a, .inr (ci, (f_go (f_v E.2.1 G a) (fty ci) 0).set k v)) = g_wl E G' := by
    refine wl_set hg.1 g1 ?_ ?_
    · rw [ent_o ((g2 a).trans hg.2) h11, ← f_go_set (g := f_v E.2.1 G a) (g' := f_v E.2.1 G' a) h10 g4, g3]
    · intro b hb
      unfold g_ent
      rw [g2 b, (g6 b).1, (g6 b).2, f_go_congr (g' := f_v E.2.1 G' b) (g := f_v E.2.1 G b) (g5 b hb)]
  have hlen : k < (f_go (f_v E.2.1 G a) (fty ci) 0).length := by
    rw [f_go_len]
    exact (List.getElem?_eq_some_iff.mp h10).1
  obtain ⟨r, r1, cell, q1, q2, q3, q4⟩ := hW.1 a _ he
  have hr : r = (C0, T, N) := Option.some.inj (r1.symm.trans h1)
  subst hr
  have hap := va_apart (own := own) C.2.2.2.2.1 h2 t0 h3 h4 C.2.2.2.2.2.1.1 h1
  obtain ⟨hS1, hfc, kC, hkC, hkind⟩ := C.2.2.2.2.2.1.1.1 ci _ h1
  obtain ⟨cf, kf, fi, f, hi, hsl⟩ := hS1 k h5
  have hlay := C.2.2.2.2.1 _ (h2 _ (u_in_lay h5))
  have hst := (u_facts hfc hkC (u_lays C.2.2.2.2.1 h2 h5) hi).1
  have hd0 : parseFieldDescriptor (T k).2.2.1 = some ty := by rw [h3 k h5, h6]
  have fin' : ∀ H' : Heap, H'[E.2.1 + a]? = some (cell.setSlot f.slot v) → H'.size = H.size → (∀ q0, q0 ≠ E.2.1 + a → H'[q0]? = H[q0]?) → W p E.1 e R s m args below meth c H' (locs ++ [⟨E.2.1 + a, f.slot⟩]) q n Q (F0 m (pc + 3) ls st) := by
    intro H' e1 e2 e3
    rw [hsl] at e1 ⊢
    refine kk H' _ ls ⟨?_, by rw [e2, hW.2, g1]⟩ (hS.put e2 e3 (by show E.2.1 ≤ E.2.1 + a; omega)) hl
    rw [← hset]
    exact hW.1.set (wl_D E G) he ⟨_, h1, t_OB.to (V := updV (vp_V _) k v) ⟨_, e1, q2, q3, t_set q4 hap h5 v⟩ (fun j _ => vp_updV_set hlen v j)⟩ e3
  cases fin with
  | false =>
    unfold u_lay at hlay
    rw [if_neg (by rw [h7]; decide)] at hlay
    have h6' := u_store hfc hkC hkind hlay hi hd0 hn hfit
    exact W.putK C.1 C.2.1 (f := f) ⟨C.2.2.2.1, C.2.2.2.2.1 _ h9, ⟨_, _, _, hi⟩, hst⟩ (by rw [q2]; exact h6') q1 q3 (by rw [hsl]; exact k2_hasslot (q4 k h5)) rfl rfl hd fin'
  | true =>
    unfold u_lay at hlay
    rw [if_pos h7] at hlay
    have hini : ini = true := by
      rcases hfi with h | h
      · cases h
      · exact h
    have hcf : m.cls = cf := by
      obtain ⟨_, _, c', _, _, _, -, -, hf', -, -, -, hown2, -⟩ := Cond.laysFinal_spec hlay
      have e1 : c' = cf := by have := hi.symm.trans hf'; simp at this; exact this.1.symm
      rw [h8 rfl] at hown2
      rw [← e1]; exact Option.some.inj (C.2.2.2.1.symm.trans hown2)
    have h6' := u_fits hfc hkC hkind (Or.inr hlay) hi hd0 hn hfit
    exact W.putFinK C.1 C.2.1 C.2.2.2.1 (C.2.2.2.2.1 _ h9) hi hst hcf (C.2.2.2.2.2.2.2.2.2 hini) (by rw [q2]; exact h6') q1 q3 (by rw [hsl]; exact k2_hasslot (q4 k h5)) rfl rfl hd fin'
theorem g_putI (C : gCx E X cc own ret F L Mc Ms ini mL) {idx ci k a : Nat} {fin : Bool} {ty : FieldType} {v : Int32} (hF : FL own idx ci k 0 fin ty) (hd : decode cc pc = .ok (.putfield idx, 3)) (hg : a < h_n G ∧ h_k G a = ci) (hfi : fin = false ∨ ini = true) (hn : narrow ty (.int v) = .int v) (hfit : fits ty (.int v) = true) (kk : gV E X q n (s_i G a k v) (pc + 3) lv st) : gV E X q n G pc lv (.int v :: .ref (E.2.1 + a) :: st) := by
  refine g_put (G' := s_i G a k v) C hF hd hg hfi hn hfit rfl (fun _ => rfl) ?_ ?_ ?_ (fun _ => ⟨rfl, rfl⟩) kk
  · show Value.int (if a = a ∧ k = k then v else _) = _
    rw [if_pos ⟨rfl, rfl⟩]
  · intro t' j hj
    have : h_i (s_i G a k v) a j = h_i G a j := if_neg (fun h => hj h.2)
    unfold f_v
    rw [this]
    rfl
  · intro b hb t' j
    have : h_i (s_i G a k v) b j = h_i G b j := if_neg (fun h => hb h.1)
    unfold f_v
    rw [this]
    rfl
theorem g_putL (C : gCx E X cc own ret F L Mc Ms ini mL) {idx ci k a : Nat} {fin : Bool} {v : Int64} (hF : FL own idx ci k 1 fin .long) (hd : decode cc pc = .ok (.putfield idx, 3)) (hg : a < h_n G ∧ h_k G a = ci) (hfi : fin = false ∨ ini = true) (kk : gV E X q n (s_l G a k v) (pc + 3) lv st) : gV E X q n G pc lv (.long v :: .ref (E.2.1 + a) :: st) := by
  refine g_put (G' := s_l G a k v) C hF hd hg hfi rfl rfl rfl (fun _ => rfl) ?_ ?_ ?_ (fun _ => ⟨rfl, rfl⟩) kk
  · show Value.long (if a = a ∧ k = k then v else _) = _
    rw [if_pos ⟨rfl, rfl⟩]
  · intro t' j hj
    have : h_l (s_l G a k v) a j = h_l G a j := if_neg (fun h => hj h.2)
    unfold f_v
    rw [this]
    rfl
  · intro b hb t' j
    have : h_l (s_l G a k v) b j = h_l G b j := if_neg (fun h => hb h.1)
    unfold f_v
    rw [this]
    rfl
theorem g_putR (C : gCx E X cc own ret F L Mc Ms ini mL) {idx ci k a r : Nat} {fin : Bool} {ty : FieldType} (hF : FL own idx ci k 2 fin ty) (hd : decode cc pc = .ok (.putfield idx, 3)) (hg : a < h_n G ∧ h_k G a = ci) (hfi : fin = false ∨ ini = true) (hn : narrow ty (.ref (E.2.1 + r)) = .ref (E.2.1 + r)) (hfit : fits ty (.ref (E.2.1 + r)) = true) (kk : gV E X q n (s_r G a k (some r)) (pc + 3) lv st) : gV E X q n G pc lv (.ref (E.2.1 + r) :: .ref (E.2.1 + a) :: st) := by
  refine g_put (G' := s_r G a k (some r)) C hF hd hg hfi hn hfit rfl (fun _ => rfl) ?_ ?_ ?_ (fun _ => ⟨rfl, rfl⟩) kk
  · show va_rf ((if a = a ∧ k = k then some r else _).map _) = _
    rw [if_pos ⟨rfl, rfl⟩]
    rfl
  · intro t' j hj
    have : h_r (s_r G a k (some r)) a j = h_r G a j := if_neg (fun h => hj h.2)
    unfold f_v
    rw [this]
    rfl
  · intro b hb t' j
    have : h_r (s_r G a k (some r)) b j = h_r G b j := if_neg (fun h => hb h.1)
    unfold f_v
    rw [this]
    rfl
/-! ===== arrays ===== -/
theorem g_alen (C : gCx E X cc own ret F L Mc Ms ini mL) {a : Nat} (hd : decode cc pc = .ok (.arraylength, 1)) (hg : a < h_n G ∧ h_k G a = 11) (kk : gV E X q n G (pc + 1) lv (.int (Int32.ofNat (h_z G a)) :: st)) : gV E X q n G pc lv (.ref (E.2.1 + a) :: st) := by
  obtain ⟨p, e, R, s, m, args, below, meth, c, Q, nL⟩ := X
  intro H locs ls hW hS hl
  have he : (g_wl E G)[a]? = some (E.2.1 + a, .inl (E.2.2.2.1.1, h_z G a, .inl (h_a G a))) := by rw [wl_get hg.1, ent_i hg.2]
  exact va_alen C.1 C.2.1 C.2.2.2.2.2.1.1 hW.1 a 0 he (ty := .int) rfl rfl hd (kk H locs ls hW hS hl)
theorem g_iald (C : gCx E X cc own ret F L Mc Ms ini mL) {a : Nat} {i : Int32} (hd : decode cc pc = .ok (.iaload, 1)) (hg : (a < h_n G ∧ h_k G a = 11) ∧ vp_in i (h_z G a)) (kk : gV E X q n G (pc + 1) lv (.int (h_a G a i.toNatClampNeg) :: st)) : gV E X q n G pc lv (.int i :: .ref (E.2.1 + a) :: st) := by
  obtain ⟨p, e, R, s, m, args, below, meth, c, Q, nL⟩ := X
  intro H locs ls hW hS hl
  have he : (g_wl E G)[a]? = some (E.2.1 + a, .inl (E.2.2.2.1.1, h_z G a, .inl (h_a G a))) := by rw [wl_get hg.1.1, ent_i hg.1.2]
  exact va_iald C.1 C.2.1 C.2.2.2.2.2.1.1 hW.1 a 0 he rfl hg.2 hd (kk H locs ls hW hS hl)
theorem g_zald (C : gCx E X cc own ret F L Mc Ms ini mL) {a : Nat} {i : Int32} (hd : decode cc pc = .ok (.baload, 1)) (hg : (a < h_n G ∧ h_k G a = 12) ∧ vp_in i (h_z G a)) (kk : gV E X q n G (pc + 1) lv (.int (h_a G a i.toNatClampNeg) :: st)) : gV E X q n G pc lv (.int i :: .ref (E.2.1 + a) :: st) := by
  obtain ⟨p, e, R, s, m, args, below, meth, c, Q, nL⟩ := X
  intro H locs ls hW hS hl
  have he : (g_wl E G)[a]? = some (E.2.1 + a, .inl (E.2.2.2.1.2, h_z G a, .inl (h_a G a))) := by rw [wl_get hg.1.1, ent_z hg.1.2]
  exact va_zald C.1 C.2.1 C.2.2.2.2.2.1.1 hW.1 a 1 he rfl hg.2 hd (kk H locs ls hW hS hl)
theorem wl_arr {G : Hp} {a : Nat} {g : Nat → Int32} {cA : ClassId} (h : a < h_n G) (hk : (h_k G a = 11 ∧ cA = E.2.2.2.1.1) ∨ (h_k G a = 12 ∧ cA = E.2.2.2.1.2)) : (g_wl E G).set a (E.2.1 + a, .inl (cA, h_z G a, .inl g)) = g_wl E (s_a G a g) := by
  have ea : h_a (s_a G a g) a = g := if_pos rfl
  refine wl_set h rfl ?_ ?_
  · rcases hk with ⟨h1, rfl⟩ | ⟨h1, rfl⟩
    · rw [ent_i (G := s_a G a g) h1, ea]
      rfl
    · rw [ent_z (G := s_a G a g) h1, ea]
      rfl
  · intro b hb
    have : h_a (s_a G a g) b = h_a G b := if_neg hb
    unfold g_ent
    rw [this]
    rfl
theorem g_iast (C : gCx E X cc own ret F L Mc Ms ini mL) {a : Nat} {i x : Int32} (hd : decode cc pc = .ok (.iastore, 1)) (hg : (a < h_n G ∧ h_k G a = 11) ∧ vp_in i (h_z G a)) (kk : gV E X q n (s_e G a i.toNatClampNeg x) (pc + 1) lv st) : gV E X q n G pc lv (.int x :: .int i :: .ref (E.2.1 + a) :: st) := by
  obtain ⟨p, e, R, s, m, args, below, meth, c, Q, nL⟩ := X
  intro H locs ls hW hS hl
  have he : (g_wl E G)[a]? = some (E.2.1 + a, .inl (E.2.2.2.1.1, h_z G a, .inl (h_a G a))) := by rw [wl_get hg.1.1, ent_i hg.1.2]
  refine W.iast C.1 C.2.1 (hW.1 a _ he) ((C.2.2.2.2.2.1.1.2 0 _ rfl).1 (h_z G a) (fun j => .int (h_a G a j))) (fun z => by cases z) (by show ¬ (i < 0 ∨ (arrV _ _ _).slots.size ≤ _); rw [arrV_size]; exact hg.2) rfl rfl hd fun H1 e1 z oq => ?_
  refine kk H1 _ ls ⟨?_, by rw [z, hW.2]; rfl⟩ (hS.put z oq (by show E.2.1 ≤ E.2.1 + a; omega)) hl
  have hs : g_wl E (s_e G a i.toNatClampNeg x) = _ := (wl_arr (E := E) (g := upd (h_a G a) i.toNatClampNeg x) hg.1.1 (Or.inl ⟨hg.1.2, rfl⟩)).symm
  rw [hs]
  refine hW.1.set (wl_D E G) he ?_ oq
  show H1[E.2.1 + a]? = some (vp_cell _ _)
  rw [e1]
  rw [vp_cell_i, vp_cell_i, arrV_store]
  congr 2
  funext j
  by_cases hj : j = i.toNatClampNeg
  · subst hj
    simp [updV, upd]
  · simp [updV, upd, hj]
theorem g_zast (C : gCx E X cc own ret F L Mc Ms ini mL) {a : Nat} {i x : Int32} (hd : decode cc pc = .ok (.bastore, 1)) (hg : (a < h_n G ∧ h_k G a = 12) ∧ vp_in i (h_z G a)) (hx : vp_nar .boolean x = x) (kk : gV E X q n (s_e G a i.toNatClampNeg x) (pc + 1) lv st) : gV E X q n G pc lv (.int x :: .int i :: .ref (E.2.1 + a) :: st) := by
  obtain ⟨p, e, R, s, m, args, below, meth, c, Q, nL⟩ := X
  intro H locs ls hW hS hl
  have he : (g_wl E G)[a]? = some (E.2.1 + a, .inl (E.2.2.2.1.2, h_z G a, .inl (h_a G a))) := by rw [wl_get hg.1.1, ent_z hg.1.2]
  refine W.zast C.1 C.2.1 (hW.1 a _ he) ((C.2.2.2.2.2.1.1.2 1 _ rfl).1 (h_z G a) (fun j => .int (h_a G a j))) (fun z => by cases z) (by show ¬ (i < 0 ∨ (arrV _ _ _).slots.size ≤ _); rw [arrV_size]; exact hg.2) rfl rfl hd fun H1 e1 z oq => ?_
  refine kk H1 _ ls ⟨?_, by rw [z, hW.2]; rfl⟩ (hS.put z oq (by show E.2.1 ≤ E.2.1 + a; omega)) hl
  have hs : g_wl E (s_e G a i.toNatClampNeg x) = _ := (wl_arr (E := E) (g := upd (h_a G a) i.toNatClampNeg x) hg.1.1 (Or.inr ⟨hg.1.2, rfl⟩)).symm
  rw [hs]
  refine hW.1.set (wl_D E G) he ?_ oq
  show H1[E.2.1 + a]? = some (vp_cell _ _)
  rw [e1]
  rw [vp_cell_i, vp_cell_i, arrV_store]
  have hx' : narrow .boolean (.int x) = .int x := congrArg Value.int (show (x &&& 1 : Int32) = x from hx)
  congr 2
  funext j
  by_cases hj : j = i.toNatClampNeg
  · subst hj
    simp [updV, upd, hx']
  · simp [updV, upd, hj]
end GH
end
section
/-! ===== contracts, calls, returns, making, copying ===== -/
def gPc (E : EE) (av : List Value) (G : Hp) : Array Value → State → Prop := fun v U => v = av.toArray ∧ gWd E G U.heap ∧ gKn E U
def gQc (E : EE) (rv : Option Value) (G' : Hp) : Array Value → State → Outcome → State → Prop := fun _ st oc t => oc = .returned rv ∧ gWd E G' t.heap ∧ va_F (fun q => E.2.1 ≤ q) st t
/-- method y, from the picture G with the arguments av, answers rv and leaves the picture G' -/
def gCt (E : EE) (y : MethodName) (cc : ByteArray) (mL : Nat) (ret : Option FieldType) (F L Mc Ms : Nat) (av : List Value) (G : Hp) (rv : Option Value) (G' : Hp) : Prop :=
  Met E.1 y (Cond.code y cc mL ret :: TB) { frames := F, cells := Mc, slots := Ms, locals := L } (gPc E av G) (gQc E rv G') Mc Ms (fun q => E.2.1 ≤ q)
theorem gPc_blind (E : EE) (av : List Value) (G : Hp) : FrameBlind (gPc E av G) := fun a U g mk h => ⟨h.1, h.2.1, gKn.same rfl rfl h.2.2⟩
theorem lvp_of {ls : Array Slot} {nL : Nat} {l : List (Nat × Value)} {lv : List (Option Value)} (h : lv_has ls nL l) (hs : ∀ (i : Nat) (v : Value), lv[i]? = some (some v) → (i, v) ∈ l) : lvp ls nL lv := ⟨h.1, h.2.1, fun i v hv => h.2.2 (i, v) (hs i v hv)⟩
/-- the places of a list of locals all stand in another list: checked by running -/
def lve : List (Option Value) → Nat → List (Nat × Value) → Prop
  | [], _, _ => True
  | none :: t, i, l => lve t (i + 1) l
  | some v :: t, i, l => l.head? = some (i, v) ∧ lve t (i + 1) l.tail
theorem lve_get : ∀ (t : List (Option Value)) (i : Nat) (l : List (Nat × Value)), lve t i l → ∀ (j : Nat) (v : Value), t[j]? = some (some v) → (i + j, v) ∈ l
  | [], i, l, _, j, v, h => by simp at h
  | none :: t, i, l, h, 0, v, hv => by simp at hv
  | some w :: t, i, l, h, 0, v, hv => by
    simp only [List.getElem?_cons_zero, Option.some.injEq] at hv
    subst hv
    exact List.mem_of_mem_head? h.1
  | none :: t, i, l, h, j + 1, v, hv => by
    have h2 := lve_get t (i + 1) l h j v (by simpa using hv)
    rwa [show i + 1 + j = i + (j + 1) by omega] at h2
  | some w :: t, i, l, h, j + 1, v, hv => by
    have h2 := lve_get t (i + 1) l.tail h.2 j v (by simpa using hv)
    rw [show i + 1 + j = i + (j + 1) by omega] at h2
    exact List.mem_of_mem_tail h2
theorem gCt_of {E : EE} {y : MethodName} {cc : ByteArray} {mL : Nat} {ret : Option FieldType} {F L Mc Ms : Nat} {av : List Value} {G : Hp} {rv : Option Value} {G' : Hp} {own : String} {ini : Bool} (lv0 : List (Option Value))
    (hy : plainName y.cls = true) (hown : y.cls = own) (hini : ini = true → y.name = "<init>") (hlen : (lg_sl av).length ≤ mL) (h0 : lve lv0 0 (lv_args 0 av))
    (body : ∀ X : CT, gCx E X cc own ret F L Mc Ms ini mL → gRet E X cc ret Mc Ms rv G' → gV E X 0 0 G 0 lv0 []) : gCt E y cc mL ret F L Mc Ms av G rv G' := by
  refine Met.ofW (cc := cc) (maxL := mL) (ret := ret) hy rfl ?_
  intro p e s m args below meth c s₁ B hml hv
  obtain ⟨rfl, hW, hK⟩ := hv
  have hts := atoms_spec (ws := Cond.code y cc mL ret :: TB) B.pre
  have hl := lv_entry av (n := mL) hlen
  rw [lg_entry_eq]
  generalize (lg_sl av ++ List.replicate (mL - (lg_sl av).length) Slot.unset).toArray = ls at hl ⊢
  have hb := B.bytes
  refine body (p, e, _, s, m, av.toArray, below, meth, c, _, mL) ⟨B.exec, B.bytes, ⟨hml, rfl⟩, by rw [← hown]; exact findClass_of_methodNamed B.named, fun w hw => hts w (List.mem_cons_of_mem _ hw), hK, ⟨Nat.le_refl _, Nat.le_refl _, Nat.le_refl _, Nat.le_refl _⟩, B.notSynchronized, B.returns, fun h => (name_of_methodNamed B.named B.method).1.trans (hini h)⟩ ?_ s.heap [] ls hW va_S.rf (lvp_of hl (fun i v hv => by have := lve_get _ _ _ h0 i v hv; rwa [Nat.zero_add] at this))
  intro pc lv hm H locs ls' hWd hS hl'
  match rv, hm with
  | none, ⟨hd, hrt⟩ => exact W.vret B.exec hb (B.returns.trans hrt) (fun t ht hW2 => ⟨rfl, by rw [ht]; exact hWd, hS.F ht⟩) hS.2.2 hd B.notSynchronized
  | some (.int v), ⟨hd, ty, hrt, hnr⟩ => exact W.zret (v := v) B.exec hb (B.returns.trans hrt) hnr (fun t ht hW2 => ⟨rfl, by rw [ht]; exact hWd, hS.F ht⟩) hS.2.2 hd B.notSynchronized
  | some (.long v), ⟨hd, hrt⟩ => exact W.lret (v := v) B.exec hb (B.returns.trans hrt) (fun t ht hW2 => ⟨rfl, by rw [ht]; exact hWd, hS.F ht⟩) hS.2.2 hd B.notSynchronized
  | some (.ref v), ⟨hd, t, hrt⟩ => exact W.aret (v := .ref v) B.exec hb (B.returns.trans hrt) (Or.inl ⟨t, rfl⟩) (Or.inr ⟨v, rfl⟩) (fun t ht hW2 => ⟨rfl, by rw [ht]; exact hWd, hS.F ht⟩) hS.2.2 hd B.notSynchronized
section GC
variable {E : EE} {X : CT} {cc : ByteArray} {own : String} {ret : Option FieldType} {F L Mc Ms : Nat} {ini : Bool} {mL : Nat} {q n : Nat} {G : Hp} {pc : Nat} {lv : List (Option Value)} {st : List Value}
theorem gIn {y : MethodName} {cc : ByteArray} {mL : Nat} {ret : Option FieldType} (h : Cond.code y cc mL ret ∈ TB) : GoodIn TB (Cond.code y cc mL ret :: TB) := fun w hw => (List.mem_cons.mp hw).elim (fun e => by rw [e]; exact ⟨h, good_of_word (tb_good _ h)⟩) (fun hw => ⟨hw, good_of_word (tb_good _ hw)⟩)
/-- behind a call -/
theorem g_after {y : MethodName} {G' : Hp} {rv : Option Value} {p : Program} {e : Env} {R : Room} {s : State} {m : MethodId} {args : Array Value} {below : List Frame} {meth : Method} {c : Code} {Q : State → Prop} {nL mc ms : Nat} {H : Heap} {locs : List Loc} {ls : Array Slot} {st0 : List Value} {a : Array Value}
    (hr : va_Run p E.1 e R s m args below meth c H locs q n mc ms (F0 m pc ls st0) st (gQc E rv G' a) (fun q => E.2.1 ≤ q)) (hS : va_S (fun q => E.2.1 ≤ q) s.heap H locs) (hl : lvp ls nL lv)
    (kk : gV E (p, e, R, s, m, args, below, meth, c, Q, nL) (q + mc) (n + ms) G' (pc + 3) lv (rv.toList ++ st)) : W p E.1 e R s m args below meth c H locs q n Q (F0 m pc ls st0) := by
  intro T hT X
  obtain ⟨v, st₀, t, T', L, h0, X', hL, e1, e2, ⟨hv, hWd, hF⟩, stp⟩ := hr T hT X
  cases hv
  have hz : H.size ≤ t.heap.size := by rw [← h0]; exact hF.1
  obtain ⟨t2, a1, b1⟩ := kk t.heap (locs ++ L) ls hWd ⟨Nat.le_trans hS.1 hz, fun x h1 h2 => by
      rw [hF.2 x (by rw [h0]; exact Nat.lt_of_lt_of_le h1 hS.1) h2, h0]
      exact hS.2.1 x h1 h2, fun x hx => by
      rcases List.mem_append.mp hx with h | h
      · exact hS.2.2 x h
      · exact hL x h⟩ hl T' e1 X'
  exact ⟨t2, stp t2 a1, b1⟩
/-- what a call's names must be: how many arguments, no method handle -/
def CN (y : MethodName) (na : Nat) : Prop := y.cls ≠ "java/lang/invoke/MethodHandle" ∧ y.cls ≠ "java/lang/invoke/VarHandle" ∧ (parseMethodDescriptor y.desc).map (fun d => d.parameters.length) = some na
theorem g_invV (C : gCx E X cc own ret F L Mc Ms ini mL) {idx na ci a F' L' Mc' Ms' mL' : Nat} {y : MethodName} {cc' : ByteArray} {ret' : Option FieldType} {As : List Value} {rv : Option Value} {G' : Hp} {T : u_T} {N : Nat}
    (hM : gCt E y cc' mL' ret' F' L' Mc' Ms' (.ref (E.2.1 + a) :: As) G rv G')
    (hc : vwCl[ci]? = some (y.cls, T, N)) (hci : ci < 11) (hg : a < h_n G ∧ h_k G a = ci)
    (h1 : Cond.methodLink own idx y ∈ TB) (h2 : Cond.instanceMethod y ∈ TB) (h3 : Cond.selects y.cls y y ∈ TB) (h4 : Cond.initialized y.cls ∈ TB) (h5 : Cond.code y cc' mL' ret' ∈ TB) (hn : CN y na) (hna : As.length = na)
    (hR : F' + 1 ≤ F ∧ 8 + (mL' + 11) + L' ≤ L ∧ q + Mc' ≤ Mc ∧ n + Ms' ≤ Ms) (hW : (st.map fun v => v.category).sum ≤ 8) {st0 : List Value} (hst : st0 = As.reverse ++ .ref (E.2.1 + a) :: st) (hd : decode cc pc = .ok (.invokevirtual idx, 3))
    (kk : gV E X (q + Mc') (n + Ms') G' (pc + 3) lv (rv.toList ++ st)) : gV E X q n G pc lv st0 := by
  obtain ⟨p, e, R, s, m, args, below, meth, c, Q, nL⟩ := X
  intro H locs ls hWd hS hl
  subst hst
  obtain ⟨C1, C2, C3, C4, C5, C6, C7, C8, C9, C10⟩ := C
  have he : (g_wl E G)[a]? = some (E.2.1 + a, .inr (ci, f_go (f_v E.2.1 G a) (fty ci) 0)) := by rw [wl_get hg.1, ent_o hg.2 hci]
  have hlen : ∀ sig, parseMethodDescriptor y.desc = some sig → na = sig.parameters.length := fun sig hsig => by
    have h := hn.2.2
    rw [hsig] at h
    exact (Option.some.inj h).symm
  refine g_after (y := y) (va_runV (Ts := TB) (C := y.cls) (own := own) ⟨C1, C2, C3.1, C4, C5⟩ hM ⟨⟨rfl, rfl, Nat.le_trans hR.1 C7.1, Nat.le_trans hR.2.1 C7.2.1, pay_in C5 (gIn h5), List.mem_cons_self, C5 _ h5, C5 _ h4, ⟨hn.1, hn.2.1⟩, hlen, C5 _ h1⟩, C5 _ h2, C5 _ h3⟩ ⟨gPc_blind _ _ _, va_recv C6.1 hWd.1 hc he, fun U hU hWm => ⟨rfl, by rw [hU]; exact hWd, gKn.warm hS hU hWm C6⟩⟩ rfl hna hl.1 rfl (lv_room hW) hd ⟨Nat.le_trans hR.2.2.1 C7.2.2.1, Nat.le_trans hR.2.2.2 C7.2.2.2⟩) hS hl kk
theorem g_invS (C : gCx E X cc own ret F L Mc Ms ini mL) {idx na F' L' Mc' Ms' mL' : Nat} {y : MethodName} {cc' : ByteArray} {ret' : Option FieldType} {As : List Value} {rv : Option Value} {G' : Hp}
    (hM : gCt E y cc' mL' ret' F' L' Mc' Ms' As G rv G')
    (h1 : Cond.methodLink own idx y ∈ TB) (h2 : Cond.static y ∈ TB) (h4 : Cond.initialized y.cls ∈ TB) (h5 : Cond.code y cc' mL' ret' ∈ TB) (hn : CN y na) (hna : As.length = na)
    (hR : F' + 1 ≤ F ∧ 8 + (mL' + 11) + L' ≤ L ∧ q + Mc' ≤ Mc ∧ n + Ms' ≤ Ms) (hW : (st.map fun v => v.category).sum ≤ 8) {st0 : List Value} (hst : st0 = As.reverse ++ st) (hd : decode cc pc = .ok (.invokestatic idx, 3))
    (kk : gV E X (q + Mc') (n + Ms') G' (pc + 3) lv (rv.toList ++ st)) : gV E X q n G pc lv st0 := by
  obtain ⟨p, e, R, s, m, args, below, meth, c, Q, nL⟩ := X
  intro H locs ls hWd hS hl
  subst hst
  obtain ⟨C1, C2, C3, C4, C5, C6, C7, C8, C9, C10⟩ := C
  have hlen : ∀ sig, parseMethodDescriptor y.desc = some sig → na = sig.parameters.length := fun sig hsig => by
    have h := hn.2.2
    rw [hsig] at h
    exact (Option.some.inj h).symm
  refine g_after (y := y) (va_runS (Ts := TB) (own := own) ⟨C1, C2, C3.1, C4, C5⟩ hM ⟨⟨rfl, rfl, Nat.le_trans hR.1 C7.1, Nat.le_trans hR.2.1 C7.2.1, pay_in C5 (gIn h5), List.mem_cons_self, C5 _ h5, C5 _ h4, ⟨hn.1, hn.2.1⟩, hlen, C5 _ h1⟩, C5 _ h2⟩ ⟨gPc_blind _ _ _, fun U hU hWm => ⟨rfl, by rw [hU]; exact hWd, gKn.warm hS hU hWm C6⟩⟩ rfl hna hl.1 rfl (lv_room hW) hd ⟨Nat.le_trans hR.2.2.1 C7.2.2.1, Nat.le_trans hR.2.2.2 C7.2.2.2⟩) hS hl kk
theorem g_invSN (C : gCx E X cc own ret F L Mc Ms ini mL) {idx na F' L' Mc' Ms' mL' : Nat} {y : MethodName} {cc' : ByteArray} {ret' : Option FieldType} {As : List Value} {rv : Option Value} {G' : Hp} {host : String}
    (hM : gCt E y cc' mL' ret' F' L' Mc' Ms' As G rv G')
    (h1 : (own, idx, y, host) ∈ nwL) (h2 : Cond.static y ∈ TB) (h4 : Cond.initialized y.cls ∈ TB) (h5 : Cond.code y cc' mL' ret' ∈ TB) (hn : CN y na) (hna : As.length = na)
    (hR : F' + 1 ≤ F ∧ 8 + (mL' + 11) + L' ≤ L ∧ q + Mc' ≤ Mc ∧ n + Ms' ≤ Ms) (hW : (st.map fun v => v.category).sum ≤ 8) {st0 : List Value} (hst : st0 = As.reverse ++ st) (hd : decode cc pc = .ok (.invokestatic idx, 3))
    (kk : gV E X (q + Mc') (n + Ms') G' (pc + 3) lv (rv.toList ++ st)) : gV E X q n G pc lv st0 := by
  obtain ⟨p, e, R, s, m, args, below, meth, c, Q, nL⟩ := X
  intro H locs ls hWd hS hl
  subst hst
  obtain ⟨C1, C2, C3, C4, C5, C6, C7, C8, C9, C10⟩ := C
  refine g_after (y := y) (va_runSN (Ts := TB) (own := own) ⟨C1, C2, C3.1, C4, C5⟩ hM ⟨va_cnB na C5 (gIn h5) rfl rfl rfl (C6.2.1 _ h1) (C5 _ h4) hn ⟨Nat.le_trans hR.1 C7.1, Nat.le_trans hR.2.1 C7.2.1⟩, C5 _ h2, trivial⟩ ⟨gPc_blind _ _ _, fun U hU hWm => ⟨rfl, by rw [hU]; exact hWd, gKn.warm hS hU hWm C6⟩⟩ rfl hna hl.1 rfl (lv_room hW) hd ⟨Nat.le_trans hR.2.2.1 C7.2.2.1, Nat.le_trans hR.2.2.2 C7.2.2.2⟩) hS hl kk
theorem g_invI (C : gCx E X cc own ret F L Mc Ms ini mL) {idx na a F' L' Mc' Ms' mL' : Nat} {y : MethodName} {cc' : ByteArray} {As : List Value} {G' : Hp}
    (hM : gCt E y cc' mL' none F' L' Mc' Ms' (.ref (E.2.1 + a) :: As) G none G')
    (h1 : Cond.methodLink own idx y ∈ TB) (h2 : Cond.instanceMethod y ∈ TB) (h4 : Cond.initialized y.cls ∈ TB) (h5 : Cond.code y cc' mL' none ∈ TB) (hy : y.name = "<init>") (hn : CN y na) (hna : As.length = na)
    (hR : F' + 1 ≤ F ∧ 8 + (mL' + 11) + L' ≤ L ∧ q + Mc' ≤ Mc ∧ n + Ms' ≤ Ms) (hW : (st.map fun v => v.category).sum ≤ 8) {st0 : List Value} (hst : st0 = As.reverse ++ .ref (E.2.1 + a) :: st) (hd : decode cc pc = .ok (.invokespecial idx, 3))
    (kk : gV E X (q + Mc') (n + Ms') G' (pc + 3) lv st) : gV E X q n G pc lv st0 := by
  obtain ⟨p, e, R, s, m, args, below, meth, c, Q, nL⟩ := X
  intro H locs ls hWd hS hl
  subst hst
  obtain ⟨C1, C2, C3, C4, C5, C6, C7, C8, C9, C10⟩ := C
  have hlen : ∀ sig, parseMethodDescriptor y.desc = some sig → na = sig.parameters.length := fun sig hsig => by
    have h := hn.2.2
    rw [hsig] at h
    exact (Option.some.inj h).symm
  refine g_after (y := y) (va_runI (Ts := TB) (own := own) ⟨C1, C2, C3.1, C4, C5⟩ hM ⟨⟨rfl, rfl, Nat.le_trans hR.1 C7.1, Nat.le_trans hR.2.1 C7.2.1, pay_in C5 (gIn h5), List.mem_cons_self, C5 _ h5, C5 _ h4, ⟨hn.1, hn.2.1⟩, hlen, C5 _ h1⟩, hy, C5 _ h2⟩ ⟨gPc_blind _ _ _, fun U hU hWm => ⟨rfl, by rw [hU]; exact hWd, gKn.warm hS hU hWm C6⟩⟩ rfl hna hl.1 rfl (lv_room hW) hd ⟨Nat.le_trans hR.2.2.1 C7.2.2.1, Nat.le_trans hR.2.2.2 C7.2.2.2⟩) hS hl kk
theorem g_invIN (C : gCx E X cc own ret F L Mc Ms ini mL) {idx na a F' L' Mc' Ms' mL' : Nat} {y : MethodName} {cc' : ByteArray} {As : List Value} {G' : Hp} {host : String}
    (hM : gCt E y cc' mL' none F' L' Mc' Ms' (.ref (E.2.1 + a) :: As) G none G')
    (h1 : (own, idx, y, host) ∈ nwL) (h2 : Cond.instanceMethod y ∈ TB) (h4 : Cond.initialized y.cls ∈ TB) (h5 : Cond.code y cc' mL' none ∈ TB) (hy : y.name = "<init>") (hn : CN y na) (hna : As.length = na)
    (hR : F' + 1 ≤ F ∧ 8 + (mL' + 11) + L' ≤ L ∧ q + Mc' ≤ Mc ∧ n + Ms' ≤ Ms) (hW : (st.map fun v => v.category).sum ≤ 8) {st0 : List Value} (hst : st0 = As.reverse ++ .ref (E.2.1 + a) :: st) (hd : decode cc pc = .ok (.invokespecial idx, 3))
    (kk : gV E X (q + Mc') (n + Ms') G' (pc + 3) lv st) : gV E X q n G pc lv st0 := by
  obtain ⟨p, e, R, s, m, args, below, meth, c, Q, nL⟩ := X
  intro H locs ls hWd hS hl
  subst hst
  obtain ⟨C1, C2, C3, C4, C5, C6, C7, C8, C9, C10⟩ := C
  refine g_after (y := y) (va_runIN (Ts := TB) (own := own) ⟨C1, C2, C3.1, C4, C5⟩ hM ⟨va_cnB na C5 (gIn h5) rfl rfl rfl (C6.2.1 _ h1) (C5 _ h4) hn ⟨Nat.le_trans hR.1 C7.1, Nat.le_trans hR.2.1 C7.2.1⟩, hy, C5 _ h2⟩ ⟨gPc_blind _ _ _, fun U hU hWm => ⟨rfl, by rw [hU]; exact hWd, gKn.warm hS hU hWm C6⟩⟩ rfl hna hl.1 rfl (lv_room hW) hd ⟨Nat.le_trans hR.2.2.1 C7.2.2.1, Nat.le_trans hR.2.2.2 C7.2.2.2⟩) hS hl kk
theorem g_vret (hR : gRet E X cc none q n none G) (hd : decode cc pc = .ok (.return_, 1)) : gV E X q n G pc lv [] := hR pc lv ⟨hd, rfl⟩
theorem g_iret {v : Int32} (hR : gRet E X cc (some .int) q n (some (.int v)) G) (hd : decode cc pc = .ok (.ireturn, 1)) : gV E X q n G pc lv [.int v] := hR pc lv ⟨hd, .int, rfl, rfl⟩
theorem g_zret {v : Int32} (hR : gRet E X cc (some .boolean) q n (some (.int v)) G) (hv : v = 0 ∨ v = 1) (hd : decode cc pc = .ok (.ireturn, 1)) : gV E X q n G pc lv [.int v] := hR pc lv ⟨hd, .boolean, rfl, by rcases hv with rfl | rfl <;> rfl⟩
theorem g_lret {v : Int64} (hR : gRet E X cc (some .long) q n (some (.long v)) G) (hd : decode cc pc = .ok (.lreturn, 1)) : gV E X q n G pc lv [.long v] := hR pc lv ⟨hd, rfl⟩
theorem g_aret {v : Nat} {t : String} (hR : gRet E X cc (some (.object t)) q n (some (.ref v)) G) (hd : decode cc pc = .ok (.areturn, 1)) : gV E X q n G pc lv [.ref v] := hR pc lv ⟨hd, t, rfl⟩
/-! ===== Math, arraycopy, making ===== -/
theorem g_max (C : gCx E X cc own ret F L Mc Ms ini mL) {idx : Nat} {x y : Int32} (h1 : Cond.methodLink own idx Lib.Math.max.name ∈ TB) (h2 : Cond.static Lib.Math.max.name ∈ TB) (h3 : Cond.initialized "java/lang/Math" ∈ TB) (h4 : Cond.code Lib.Math.max.name Lib.Math.max.code 2 (some .int) ∈ TB) (hF : 1 ≤ F) (hL : (st.map fun v => v.category).sum + 13 ≤ L) (hq : q ≤ Mc ∧ n ≤ Ms) (hd : decode cc pc = .ok (.invokestatic idx, 3)) (kk : gV E X q n G (pc + 3) lv (.int (if x < y then y else x) :: st)) : gV E X q n G pc lv (.int y :: .int x :: st) := by
  obtain ⟨p, e, R, s, m, args, below, meth, c, Q, nL⟩ := X
  intro H locs ls hWd hS hl
  obtain ⟨C1, C2, C3, C4, C5, C6, C7, C8, C9, C10⟩ := C
  exact va_mmax C1 C2 (C3.1.trans hl.1.symm) C4 (C5 _ h1) (C5 _ h2) (C5 _ h3) (C5 _ h4) (Nat.le_trans hF C7.1) (Nat.le_trans hL C7.2.1) (Nat.le_trans hq.1 C7.2.2.1) (Nat.le_trans hq.2 C7.2.2.2) hd (kk H locs ls hWd hS hl)
theorem g_min (C : gCx E X cc own ret F L Mc Ms ini mL) {idx : Nat} {x y : Int32} (h1 : Cond.methodLink own idx Lib.Math.min.name ∈ TB) (h2 : Cond.static Lib.Math.min.name ∈ TB) (h3 : Cond.initialized "java/lang/Math" ∈ TB) (h4 : Cond.code Lib.Math.min.name Lib.Math.min.code 2 (some .int) ∈ TB) (hF : 1 ≤ F) (hL : (st.map fun v => v.category).sum + 13 ≤ L) (hq : q ≤ Mc ∧ n ≤ Ms) (hd : decode cc pc = .ok (.invokestatic idx, 3)) (kk : gV E X q n G (pc + 3) lv (.int (if y < x then y else x) :: st)) : gV E X q n G pc lv (.int y :: .int x :: st) := by
  obtain ⟨p, e, R, s, m, args, below, meth, c, Q, nL⟩ := X
  intro H locs ls hWd hS hl
  obtain ⟨C1, C2, C3, C4, C5, C6, C7, C8, C9, C10⟩ := C
  exact va_mmin C1 C2 (C3.1.trans hl.1.symm) C4 (C5 _ h1) (C5 _ h2) (C5 _ h3) (C5 _ h4) (Nat.le_trans hF C7.1) (Nat.le_trans hL C7.2.1) (Nat.le_trans hq.1 C7.2.2.1) (Nat.le_trans hq.2 C7.2.2.2) hd (kk H locs ls hWd hS hl)
theorem g_objInit (C : gCx E X cc own ret F L Mc Ms ini mL) {idx a : Nat} (h1 : Cond.methodLink own idx Lib.objectInit ∈ TB) (h2 : Cond.instanceMethod Lib.objectInit ∈ TB) (h3 : Cond.code Lib.objectInit ⟨#[0xb1]⟩ 1 none ∈ TB) (hF : 1 ≤ F) (hL : (st.map fun v => v.category).sum + 12 ≤ L) (hd : decode cc pc = .ok (.invokespecial idx, 3)) (kk : gV E X q n G (pc + 3) lv st) : gV E X q n G pc lv (.ref a :: st) := by
  obtain ⟨p, e, R, s, m, args, below, meth, c, Q, nL⟩ := X
  intro H locs ls hWd hS hl
  obtain ⟨C1, C2, C3, C4, C5, C6, C7, C8, C9, C10⟩ := C
  refine W.objInit C1 C2 C4 (C5 _ h1) (C5 _ h2) (C5 _ h3) rfl (hl.1.trans C3.1.symm) rfl hd (Nat.le_trans hF C7.1) (by show 2 * 0 + _ + 12 ≤ _; exact Nat.le_trans (by omega) C7.2.1) ?_
  exact kk H locs ls hWd hS hl
theorem g_new (C : gCx E X cc own ret F L Mc Ms ini mL) {idx ci N : Nat} {C0 : String} {T : u_T} (t0 : Nat → FieldType) (hc : vwCl[ci]? = some (C0, T, N)) (hci : ci < 11) (h2 : ∀ w ∈ u_ws C0 T N, w ∈ TB) (h3 : ∀ j, j < N → parseFieldDescriptor (T j).2.2.1 = some (t0 j)) (hlen : (fty ci).length = N) (ht : ∀ j t, (fty ci)[j]? = some t → defaultValue (t0 j) = if t = 0 then .int 0 else if t = 1 then .long 0 else .null) (h4 : Cond.classLink own idx C0 ∈ TB) (h5 : Cond.instantiable C0 N ∈ TB) (h6 : Cond.initialized C0 ∈ TB) (hq : q + 1 ≤ Mc ∧ n + N ≤ Ms) (hd : decode cc pc = .ok (.new idx, 3)) (kk : gV E X (q + 1) (n + N) (s_new G ci) (pc + 3) lv (.ref (E.2.1 + h_n G) :: st)) : gV E X q n G pc lv st := by
  obtain ⟨p, e, R, s, m, args, below, meth, c, Q, nL⟩ := X
  intro H locs ls hWd hS hl
  obtain ⟨C1, C2, C3, C4, C5, C6, C7, C8, C9, C10⟩ := C
  have hKn := C6.1.1 ci _ hc
  refine W.newcK C1 C2 C4 (C5 _ h4) (C5 _ h5) (C5 _ h6) rfl hd (Nat.le_trans hq.1 C7.2.2.1) (Nat.le_trans hq.2 C7.2.2.2) hKn.2.1 rfl fun H1 kC hkC e1 z1 o1 => ?_
  have hk : ∀ (k : Nat) (x : Nat × va_E), (g_wl E G)[k]? = some x → H1[x.1]? = H[x.1]? := fun k x hx => o1 x.1 ((hWd.1 k x hx).lt)
  have hw : g_wl E G ++ [(E.2.1 + h_n G, .inr (ci, f_go (f_v E.2.1 (s_new G ci) (h_n G)) (fty ci) 0))] = g_wl E (s_new G ci) := by
    refine wl_push rfl ?_ ?_
    · rw [ent_o (show h_k (s_new G ci) (h_n G) = ci from if_pos rfl) hci]
    · intro b hb
      have hne : ¬ b = G.1 := by have : b < G.1 := hb; omega
      have k1 : h_k (s_new G ci) b = h_k G b := if_neg hne
      have k2 : ∀ j, h_i (s_new G ci) b j = h_i G b j := fun j => congrFun (if_neg hne : h_i (s_new G ci) b = h_i G b) j
      have k3 : ∀ j, h_l (s_new G ci) b j = h_l G b j := fun j => congrFun (if_neg hne : h_l (s_new G ci) b = h_l G b) j
      have k4 : ∀ j, h_r (s_new G ci) b j = h_r G b j := fun j => congrFun (if_neg hne : h_r (s_new G ci) b = h_r G b) j
      unfold g_ent
      rw [k1, f_go_congr (g' := f_v E.2.1 (s_new G ci) b) (g := f_v E.2.1 G b) (fun t j => by unfold f_v; rw [k2, k3, k4])]
      rfl
  suffices hP9 : va_P E.2.2.1 vwCl (g_wl E (s_new G ci)) H1 by
    have hfin := kk H1 locs ls ⟨hP9, by rw [z1, hWd.2]; show _ = E.2.1 + (G.1 + 1); rfl⟩ ⟨Nat.le_trans hS.1 (by omega), fun x g1 g2 => (o1 x (Nat.lt_of_lt_of_le g1 hS.1)).trans (hS.2.1 x g1 g2), hS.2.2⟩ hl
    rw [← hWd.2] at hfin
    exact hfin
  rw [← hw]
  refine (hWd.1.kept hk).app (fun k x hx => ?_)
  have hz : k < 1 := (List.getElem?_eq_some_iff.mp hx).1
  rw [show k = 0 by omega] at hx
  cases hx
  refine ⟨_, hc, ?_⟩
  have hb := u_born t0 C5 h2 hKn hkC e1 h3
  rw [hWd.2] at hb
  refine hb.to (fun j hj => ?_)
  have hj2 : j < (fty ci).length := by rw [hlen]; exact hj
  have hj3 : (fty ci)[j]? = some (fty ci)[j] := List.getElem?_eq_getElem hj2
  have e2 : vp_V (f_go (f_v E.2.1 (s_new G ci) (h_n G)) (fty ci) 0) j = f_v E.2.1 (s_new G ci) (h_n G) (fty ci)[j] j := by
    unfold vp_V
    rw [List.getD_eq_getElem?_getD, f_go_get, hj3]
    simp
  rw [e2, ht j _ hj3]
  have n2 : h_i (s_new G ci) (h_n G) j = 0 := congrFun (if_pos rfl : h_i (s_new G ci) (h_n G) = fun _ => 0) j
  have n3 : h_l (s_new G ci) (h_n G) j = 0 := congrFun (if_pos rfl : h_l (s_new G ci) (h_n G) = fun _ => 0) j
  have n4 : h_r (s_new G ci) (h_n G) j = none := congrFun (if_pos rfl : h_r (s_new G ci) (h_n G) = fun _ => none) j
  unfold f_v
  rw [n2, n3, n4]
  rfl
theorem wl_newarr {G : Hp} {kc z : Nat} {cA : ClassId} (hk : (kc = 11 ∧ cA = E.2.2.2.1.1) ∨ (kc = 12 ∧ cA = E.2.2.2.1.2)) : g_wl E G ++ [(E.2.1 + h_n G, .inl (cA, z, .inl (fun _ => 0)))] = g_wl E (s_arr G kc z) := by
  have a1 : h_a (s_arr G kc z) (h_n G) = fun _ => 0 := if_pos rfl
  have a2 : h_z (s_arr G kc z) (h_n G) = z := if_pos rfl
  have a3 : h_k (s_arr G kc z) (h_n G) = kc := if_pos rfl
  refine wl_push rfl ?_ ?_
  · rcases hk with ⟨rfl, rfl⟩ | ⟨rfl, rfl⟩
    · rw [ent_i a3, a1, a2]
    · rw [ent_z a3, a1, a2]
  · intro b hb
    have hne : ¬ b = G.1 := by have : b < G.1 := hb; omega
    have k1 : h_k (s_arr G kc z) b = h_k G b := if_neg hne
    have k2 : h_a (s_arr G kc z) b = h_a G b := if_neg hne
    have k3 : h_z (s_arr G kc z) b = h_z G b := if_neg hne
    unfold g_ent
    rw [k1, k2, k3]
    rfl
theorem g_newa (C : gCx E X cc own ret F L Mc Ms ini mL) {atype : ArrayType} {kc : Nat} {z : Int32} (hat : (atype = .int ∧ kc = 11) ∨ (atype = .boolean ∧ kc = 12)) (h1 : Cond.arrayClass (newarray.typeOf atype) ∈ TB) (hz : ¬ z < 0) (hzm : z.toNatClampNeg ≤ 1000) (hq : q + 1 ≤ Mc ∧ n + z.toNatClampNeg ≤ Ms) (hd : decode cc pc = .ok (.newarray atype, 2)) (kk : gV E X (q + 1) (n + z.toNatClampNeg) (s_arr G kc z.toNatClampNeg) (pc + 2) lv (.ref (E.2.1 + h_n G) :: st)) : gV E X q n G pc lv (.int z :: st) := by
  obtain ⟨p, e, R, s, m, args, below, meth, c, Q, nL⟩ := X
  intro H locs ls hWd hS hl
  obtain ⟨C1, C2, C3, C4, C5, C6, C7, C8, C9, C10⟩ := C
  have hby : z.toNatClampNeg * componentBytes (newarray.typeOf atype) ≤ 536870912 := by
    rcases hat with ⟨rfl, -⟩ | ⟨rfl, -⟩
    · show z.toNatClampNeg * 4 ≤ _
      omega
    · show z.toNatClampNeg * 1 ≤ _
      omega
  refine va_newaK C1 C2 (C5 _ h1) rfl hd rfl hz rfl hby (Nat.le_trans hq.1 C7.2.2.1) (Nat.le_trans hq.2 C7.2.2.2) rfl fun H1 cA e1 z1 o1 hAr hNm => ?_
  have hk : ∀ (k : Nat) (x : Nat × va_E), (g_wl E G)[k]? = some x → H1[x.1]? = H[x.1]? := fun k x hx => o1 x.1 ((hWd.1 k x hx).lt)
  have hcA : (kc = 11 ∧ cA = E.2.2.2.1.1) ∨ (kc = 12 ∧ cA = E.2.2.2.1.2) := by
    rcases hat with ⟨rfl, rfl⟩ | ⟨rfl, rfl⟩
    · exact Or.inl ⟨rfl, Option.some.inj (hNm.symm.trans (C6.1.2 0 _ rfl).2)⟩
    · exact Or.inr ⟨rfl, Option.some.inj (hNm.symm.trans (C6.1.2 1 _ rfl).2)⟩
  suffices hP9 : va_P E.2.2.1 vwCl (g_wl E (s_arr G kc z.toNatClampNeg)) H1 by
    have hfin := kk H1 locs ls ⟨hP9, by rw [z1, hWd.2]; show _ = E.2.1 + (G.1 + 1); rfl⟩ ⟨Nat.le_trans hS.1 (by omega), fun x g1 g2 => (o1 x (Nat.lt_of_lt_of_le g1 hS.1)).trans (hS.2.1 x g1 g2), hS.2.2⟩ hl
    rw [← hWd.2] at hfin
    exact hfin
  rw [← wl_newarr hcA]
  refine (hWd.1.kept hk).app (fun k x hx => ?_)
  have hz : k < 1 := (List.getElem?_eq_some_iff.mp hx).1
  rw [show k = 0 by omega] at hx
  cases hx
  show H1[E.2.1 + h_n G]? = some (vp_cell _ _)
  rw [← hWd.2, e1]
  rcases hat with ⟨rfl, rfl⟩ | ⟨rfl, rfl⟩ <;> rfl
theorem g_copy (C : gCx E X cc own ret F L Mc Ms ini mL) {idx a0 a : Nat} {sp dp z : Int32} (h1 : Cond.methodLink own idx arraycopyName ∈ TB) (h2 : Cond.native arraycopyName ∈ TB) (h3 : Cond.static arraycopyName ∈ TB) (h4 : Cond.initialized "java/lang/System" ∈ TB) (hg : (a0 < h_n G ∧ h_k G a0 = 11) ∧ (a < h_n G ∧ h_k G a = 11) ∧ (¬ sp < 0 ∧ ¬ dp < 0 ∧ ¬ z < 0) ∧ sp.toNatClampNeg + z.toNatClampNeg ≤ h_z G a0 ∧ dp.toNatClampNeg + z.toNatClampNeg ≤ h_z G a) (hF : 1 ≤ F) (hL : (st.map fun v => v.category).sum + 18 ≤ L) (hd : decode cc pc = .ok (.invokestatic idx, 3)) (kk : gV E X q n (s_a G a (va_cpy (h_a G a0) (h_a G a) sp.toNatClampNeg dp.toNatClampNeg z.toNatClampNeg)) (pc + 3) lv st) : gV E X q n G pc lv (.int z :: .int dp :: .ref (E.2.1 + a) :: .int sp :: .ref (E.2.1 + a0) :: st) := by
  obtain ⟨p, e, R, s, m, args, below, meth, c, Q, nL⟩ := X
  intro H locs ls hWd hS hl
  obtain ⟨C1, C2, C3, C4, C5, C6, C7, C8, C9, C10⟩ := C
  obtain ⟨hg0, hg1, ⟨s1, s2, s3⟩, b1, b2⟩ := hg
  have he0 : (g_wl E G)[a0]? = some (E.2.1 + a0, .inl (E.2.2.2.1.1, h_z G a0, .inl (h_a G a0))) := by rw [wl_get hg0.1, ent_i hg0.2]
  have he : (g_wl E G)[a]? = some (E.2.1 + a, .inl (E.2.2.2.1.1, h_z G a, .inl (h_a G a))) := by rw [wl_get hg1.1, ent_i hg1.2]
  have nn : ∀ z : Int32, ¬ z < 0 → z.toInt = (z.toNatClampNeg : Int) := by
    intro z hz
    have hz0 : (0 : Int) ≤ z.toInt := by
      have := Int32.not_lt.mp hz
      simpa using Int32.le_iff_toInt_le.mp this
    show z.toInt = ((z.toInt.toNat : Nat) : Int)
    omega
  intro T hT X
  have hc0 : H[E.2.1 + a0]? = some (vp_cell E.2.2.2.1.1 (h_z G a0, .inl (h_a G a0))) := hWd.1 a0 _ he0
  have hc1 : H[E.2.1 + a]? = some (vp_cell E.2.2.2.1.1 (h_z G a, .inl (h_a G a))) := hWd.1 a _ he
  obtain ⟨-, k0, hk0, cm0, hkk0⟩ := (C6.1.2 0 _ rfl).1 (h_z G a0) (fun j => .int (h_a G a0 j))
  obtain ⟨-, k1, hk1, cm1, hkk1⟩ := (C6.1.2 0 _ rfl).1 (h_z G a) (fun j => .int (h_a G a j))
  obtain ⟨vm', X', step⟩ := X.arraycopy C1 C4 (C5 _ h1) (C5 _ h2) (C5 _ h3) (C5 _ h4) (src := E.2.1 + a0) (dst := E.2.1 + a) (cs := vp_cell E.2.2.2.1.1 (h_z G a0, .inl (h_a G a0))) (cd := vp_cell E.2.2.2.1.1 (h_z G a, .inl (h_a G a))) (srcPos := sp) (destPos := dp) (n := z) (by rw [hT]; exact hc0) (by rw [hT]; exact hc1)
    (fun _ h => by cases h) (fun _ h => by cases h) (fun h => by cases h) (fun h => by cases h) hk0 hk1 hkk0 hkk1 (by simp [refKind]) s1 s2 s3
    (by rw [nn sp s1, nn z s3]; show ¬ _ > ((arrV E.2.2.2.1.1 (h_z G a0) (fun j => .int (h_a G a0 j))).slots.size : Int); rw [arrV_size]; omega)
    (by rw [nn dp s2, nn z s3]; show ¬ _ > ((arrV E.2.2.2.1.1 (h_z G a) (fun j => .int (h_a G a j))).slots.size : Int); rw [arrV_size]; omega)
    (fun vm₁ _ i hi => by
      have e : (vp_cell E.2.2.2.1.1 (h_z G a0, .inl (h_a G a0))).slots.getD (sp.toNatClampNeg + i) .null = .int (h_a G a0 (sp.toNatClampNeg + i)) := by
        show (arrV E.2.2.2.1.1 (h_z G a0) (fun j => .int (h_a G a0 j))).slots.getD _ _ = _
        rw [Array.getD_eq_getD_getElem?, arrV_read _ _ (by omega)]
        rfl
      refine ⟨?_, ?_⟩
      · rw [e]
        rfl
      · rw [e]
        exact trivial)
    (g := F0 m pc ls (.int z :: .int dp :: .ref (E.2.1 + a) :: .int sp :: .ref (E.2.1 + a0) :: st)) rfl (hl.1.trans C3.1.symm) (rest := st) rfl (by rw [C2]; exact hd) (Nat.le_trans hF C7.1) (by
      have : nativeFrameWords "java/lang/System" "arraycopy" 5 = 7 := by decide +kernel
      show 2 * 0 + _ + _ ≤ _
      have := C7.2.1
      omega)
  have e1 : copied (vp_cell E.2.2.2.1.1 (h_z G a0, .inl (h_a G a0))) (vp_cell E.2.2.2.1.1 (h_z G a, .inl (h_a G a))) sp dp z = vp_cell E.2.2.2.1.1 (h_z G a, .inl (va_cpy (h_a G a0) (h_a G a) sp.toNatClampNeg dp.toNatClampNeg z.toNatClampNeg)) := va_copied (fun z => .int z) _ _ (h_a G a0) (h_a G a) b1
  rw [e1] at X' step
  generalize hg9 : va_cpy (h_a G a0) (h_a G a) sp.toNatClampNeg dp.toNatClampNeg z.toNatClampNeg = g9 at X' step kk
  have hl9 : E.2.1 + a < H.size := (Array.getElem?_eq_some_iff.mp hc1).1
  have hheap : ((T.setVm vm').setCell (E.2.1 + a) (vp_cell E.2.2.2.1.1 (h_z G a, .inl g9))).heap = H.setIfInBounds (E.2.1 + a) (vp_cell E.2.2.2.1.1 (h_z G a, .inl g9)) := by rw [← hT]; rfl
  have oq : ∀ q : Nat, q ≠ E.2.1 + a → (H.setIfInBounds (E.2.1 + a) (vp_cell E.2.2.2.1.1 (h_z G a, .inl g9)))[q]? = H[q]? := fun q hq => by simp [Array.getElem?_setIfInBounds, Ne.symm hq]
  have hs : g_wl E (s_a G a g9) = _ := (wl_arr (E := E) (g := g9) hg1.1 (Or.inl ⟨hg1.2, rfl⟩)).symm
  obtain ⟨t, a1, b1⟩ := kk (H.setIfInBounds (E.2.1 + a) (vp_cell E.2.2.2.1.1 (h_z G a, .inl g9))) _ ls ⟨by
      rw [hs]
      exact hWd.1.set (wl_D E G) he (show (H.setIfInBounds _ _)[E.2.1 + a]? = some _ by simp [Array.getElem?_setIfInBounds, hl9]) oq, by simp [hWd.2]; rfl⟩ ⟨by simp; exact hS.1, fun q g1 g2 => by
      rw [oq q (fun e => g2 (by rw [e]; show E.2.1 ≤ E.2.1 + a; omega))]
      exact hS.2.1 q g1 g2, fun q hq => by
      rcases List.mem_append.mp hq with h | h
      · exact hS.2.2 q h
      · obtain ⟨z, -, hz⟩ := List.mem_map.mp h
        rw [← hz]
        show E.2.1 ≤ E.2.1 + a
        omega⟩ hl _ hheap X'
  exact ⟨t, step t a1, b1⟩
theorem g_ldcS (C : gCx E X cc "FavoursGoOff$Reader" ret F L Mc Ms ini mL) {idx i : Nat} {tx : String} (hi : g_six[i]? = some (idx, tx)) (hd : decode cc pc = .ok (.ldc idx, 2)) (k : gV E X q n G (pc + 2) lv (.ref (E.2.2.2.2.1 i) :: st)) : gV E X q n G pc lv st := by
  obtain ⟨p, e, R, s, m, args, below, meth, c, Q, nL⟩ := X
  intro H locs ls hW hS hl
  obtain ⟨C1, C2, C3, C4, C5, C6, C7, C8, C9, C10⟩ := C
  exact va_ldcS C1 C2 C4 (C6.2.2.1.1 i _ hi) hd (k H locs ls hW hS hl)
end GC
end
