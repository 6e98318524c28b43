section
-- ===== PART A: goes FIRST, ahead of the names: the tables' words, and 'selects' of the private methods out of them =====
/-- a private method of a class that the tables say can be made, by its rows of tables_1 -/
def lw_okq (q : MethodName × Nat) : Prop := (q.1.cls ≠ "java/lang/invoke/MethodHandle" ∧ q.1.cls ≠ "java/lang/invoke/VarHandle") ∧ Cond.instantiable q.1.cls q.2 ∈ tables_1 ∧ Cond.privateMethod q.1 ∈ tables_1 ∧ Cond.instanceMethod q.1 ∈ tables_1
theorem lw_p0 : lw_okq (⟨"FavoursGoOff$Table", "placeOf", "(II)I"⟩, 3) := ⟨⟨by decide +kernel, by decide +kernel⟩, List.mem_of_getElem? (i := 39) (by decide +kernel), List.mem_of_getElem? (i := 294) (by decide +kernel), List.mem_of_getElem? (i := 295) (by decide +kernel)⟩
theorem lw_p1 : lw_okq (⟨"FavoursGoOff", "bad", "(I)I"⟩, 13) := ⟨⟨by decide +kernel, by decide +kernel⟩, List.mem_of_getElem? (i := 19) (by decide +kernel), List.mem_of_getElem? (i := 349) (by decide +kernel), List.mem_of_getElem? (i := 350) (by decide +kernel)⟩
theorem lw_p2 : lw_okq (⟨"FavoursGoOff", "full", "()I"⟩, 13) := ⟨⟨by decide +kernel, by decide +kernel⟩, List.mem_of_getElem? (i := 19) (by decide +kernel), List.mem_of_getElem? (i := 377) (by decide +kernel), List.mem_of_getElem? (i := 378) (by decide +kernel)⟩
theorem lw_p3 : lw_okq (⟨"FavoursGoOff", "isDayToCome", "(I)Z"⟩, 13) := ⟨⟨by decide +kernel, by decide +kernel⟩, List.mem_of_getElem? (i := 19) (by decide +kernel), List.mem_of_getElem? (i := 389) (by decide +kernel), List.mem_of_getElem? (i := 390) (by decide +kernel)⟩
theorem lw_p4 : lw_okq (⟨"FavoursGoOff$Reader", "step", "()V"⟩, 8) := ⟨⟨by decide +kernel, by decide +kernel⟩, List.mem_of_getElem? (i := 113) (by decide +kernel), List.mem_of_getElem? (i := 422) (by decide +kernel), List.mem_of_getElem? (i := 423) (by decide +kernel)⟩
theorem lw_p5 : lw_okq (⟨"FavoursGoOff$Reader", "endOfRun", "(II)I"⟩, 8) := ⟨⟨by decide +kernel, by decide +kernel⟩, List.mem_of_getElem? (i := 113) (by decide +kernel), List.mem_of_getElem? (i := 431) (by decide +kernel), List.mem_of_getElem? (i := 432) (by decide +kernel)⟩
theorem lw_p6 : lw_okq (⟨"FavoursGoOff$Reader", "takeFigures", "()V"⟩, 8) := ⟨⟨by decide +kernel, by decide +kernel⟩, List.mem_of_getElem? (i := 113) (by decide +kernel), List.mem_of_getElem? (i := 435) (by decide +kernel), List.mem_of_getElem? (i := 436) (by decide +kernel)⟩
theorem lw_p7 : lw_okq (⟨"FavoursGoOff$Reader", "readPeople", "()V"⟩, 8) := ⟨⟨by decide +kernel, by decide +kernel⟩, List.mem_of_getElem? (i := 113) (by decide +kernel), List.mem_of_getElem? (i := 439) (by decide +kernel), List.mem_of_getElem? (i := 440) (by decide +kernel)⟩
theorem lw_p8 : lw_okq (⟨"FavoursGoOff$Reader", "isWord", "(Ljava/lang/String;)Z"⟩, 8) := ⟨⟨by decide +kernel, by decide +kernel⟩, List.mem_of_getElem? (i := 113) (by decide +kernel), List.mem_of_getElem? (i := 444) (by decide +kernel), List.mem_of_getElem? (i := 445) (by decide +kernel)⟩
theorem lw_p9 : lw_okq (⟨"FavoursGoOff$Reader", "fail", "()V"⟩, 8) := ⟨⟨by decide +kernel, by decide +kernel⟩, List.mem_of_getElem? (i := 113) (by decide +kernel), List.mem_of_getElem? (i := 496) (by decide +kernel), List.mem_of_getElem? (i := 497) (by decide +kernel)⟩
theorem lw_p10 : lw_okq (⟨"FavoursGoOff$Reader", "takeNumber", "(II)I"⟩, 8) := ⟨⟨by decide +kernel, by decide +kernel⟩, List.mem_of_getElem? (i := 113) (by decide +kernel), List.mem_of_getElem? (i := 500) (by decide +kernel), List.mem_of_getElem? (i := 501) (by decide +kernel)⟩
theorem lw_p11 : lw_okq (⟨"FavoursGoOff$Reader", "takeStop", "()V"⟩, 8) := ⟨⟨by decide +kernel, by decide +kernel⟩, List.mem_of_getElem? (i := 113) (by decide +kernel), List.mem_of_getElem? (i := 504) (by decide +kernel), List.mem_of_getElem? (i := 505) (by decide +kernel)⟩
theorem lw_p12 : lw_okq (⟨"FavoursGoOff$Reader", "readItem", "()V"⟩, 8) := ⟨⟨by decide +kernel, by decide +kernel⟩, List.mem_of_getElem? (i := 113) (by decide +kernel), List.mem_of_getElem? (i := 509) (by decide +kernel), List.mem_of_getElem? (i := 510) (by decide +kernel)⟩
theorem lw_p13 : lw_okq (⟨"FavoursGoOff$Reader", "readStrong", "()V"⟩, 8) := ⟨⟨by decide +kernel, by decide +kernel⟩, List.mem_of_getElem? (i := 113) (by decide +kernel), List.mem_of_getElem? (i := 514) (by decide +kernel), List.mem_of_getElem? (i := 515) (by decide +kernel)⟩
theorem lw_p14 : lw_okq (⟨"FavoursGoOff$Reader", "readFavour", "()V"⟩, 8) := ⟨⟨by decide +kernel, by decide +kernel⟩, List.mem_of_getElem? (i := 113) (by decide +kernel), List.mem_of_getElem? (i := 521) (by decide +kernel), List.mem_of_getElem? (i := 522) (by decide +kernel)⟩
theorem lw_p15 : lw_okq (⟨"FavoursGoOff$Reader", "refuse", "(I)V"⟩, 8) := ⟨⟨by decide +kernel, by decide +kernel⟩, List.mem_of_getElem? (i := 113) (by decide +kernel), List.mem_of_getElem? (i := 525) (by decide +kernel), List.mem_of_getElem? (i := 526) (by decide +kernel)⟩
def lw_privs_1 : List (MethodName × Nat) := [(⟨"FavoursGoOff$Table", "placeOf", "(II)I"⟩, 3), (⟨"FavoursGoOff", "bad", "(I)I"⟩, 13), (⟨"FavoursGoOff", "full", "()I"⟩, 13), (⟨"FavoursGoOff", "isDayToCome", "(I)Z"⟩, 13), (⟨"FavoursGoOff$Reader", "step", "()V"⟩, 8), (⟨"FavoursGoOff$Reader", "endOfRun", "(II)I"⟩, 8), (⟨"FavoursGoOff$Reader", "takeFigures", "()V"⟩, 8), (⟨"FavoursGoOff$Reader", "readPeople", "()V"⟩, 8), (⟨"FavoursGoOff$Reader", "isWord", "(Ljava/lang/String;)Z"⟩, 8), (⟨"FavoursGoOff$Reader", "fail", "()V"⟩, 8), (⟨"FavoursGoOff$Reader", "takeNumber", "(II)I"⟩, 8), (⟨"FavoursGoOff$Reader", "takeStop", "()V"⟩, 8), (⟨"FavoursGoOff$Reader", "readItem", "()V"⟩, 8), (⟨"FavoursGoOff$Reader", "readStrong", "()V"⟩, 8), (⟨"FavoursGoOff$Reader", "readFavour", "()V"⟩, 8), (⟨"FavoursGoOff$Reader", "refuse", "(I)V"⟩, 8)]
theorem lw_r1 : ∀ q ∈ lw_privs_1, lw_okq q := List.forall_mem_cons.mpr ⟨lw_p0, List.forall_mem_cons.mpr ⟨lw_p1, List.forall_mem_cons.mpr ⟨lw_p2, List.forall_mem_cons.mpr ⟨lw_p3, List.forall_mem_cons.mpr ⟨lw_p4, List.forall_mem_cons.mpr ⟨lw_p5, List.forall_mem_cons.mpr ⟨lw_p6, List.forall_mem_cons.mpr ⟨lw_p7, List.forall_mem_cons.mpr ⟨lw_p8, List.forall_mem_cons.mpr ⟨lw_p9, List.forall_mem_cons.mpr ⟨lw_p10, List.forall_mem_cons.mpr ⟨lw_p11, List.forall_mem_cons.mpr ⟨lw_p12, List.forall_mem_cons.mpr ⟨lw_p13, List.forall_mem_cons.mpr ⟨lw_p14, List.forall_mem_cons.mpr ⟨lw_p15, fun _ h => absurd h List.not_mem_nil⟩⟩⟩⟩⟩⟩⟩⟩⟩⟩⟩⟩⟩⟩⟩⟩
theorem lw_p16 : lw_okq (⟨"FavoursGoOff$Reader", "readNeed", "()V"⟩, 8) := ⟨⟨by decide +kernel, by decide +kernel⟩, List.mem_of_getElem? (i := 113) (by decide +kernel), List.mem_of_getElem? (i := 531) (by decide +kernel), List.mem_of_getElem? (i := 532) (by decide +kernel)⟩
theorem lw_p17 : lw_okq (⟨"FavoursGoOff", "no", "(I)I"⟩, 13) := ⟨⟨by decide +kernel, by decide +kernel⟩, List.mem_of_getElem? (i := 19) (by decide +kernel), List.mem_of_getElem? (i := 574) (by decide +kernel), List.mem_of_getElem? (i := 575) (by decide +kernel)⟩
theorem lw_p18 : lw_okq (⟨"FavoursGoOff", "findRing", "()V"⟩, 13) := ⟨⟨by decide +kernel, by decide +kernel⟩, List.mem_of_getElem? (i := 19) (by decide +kernel), List.mem_of_getElem? (i := 651) (by decide +kernel), List.mem_of_getElem? (i := 652) (by decide +kernel)⟩
theorem lw_p19 : lw_okq (⟨"FavoursGoOff$Circle", "holds", "(II)Z"⟩, 2) := ⟨⟨by decide +kernel, by decide +kernel⟩, List.mem_of_getElem? (i := 194) (by decide +kernel), List.mem_of_getElem? (i := 667) (by decide +kernel), List.mem_of_getElem? (i := 668) (by decide +kernel)⟩
theorem lw_p20 : lw_okq (⟨"FavoursGoOff$Debts", "doneFor", "(II)I"⟩, 6) := ⟨⟨by decide +kernel, by decide +kernel⟩, List.mem_of_getElem? (i := 164) (by decide +kernel), List.mem_of_getElem? (i := 689) (by decide +kernel), List.mem_of_getElem? (i := 690) (by decide +kernel)⟩
theorem lw_p21 : lw_okq (⟨"FavoursGoOff$Debts", "dueFrom", "(I)I"⟩, 6) := ⟨⟨by decide +kernel, by decide +kernel⟩, List.mem_of_getElem? (i := 164) (by decide +kernel), List.mem_of_getElem? (i := 694) (by decide +kernel), List.mem_of_getElem? (i := 695) (by decide +kernel)⟩
theorem lw_p22 : lw_okq (⟨"FavoursGoOff$Debts", "mostGroups", "(I)I"⟩, 6) := ⟨⟨by decide +kernel, by decide +kernel⟩, List.mem_of_getElem? (i := 164) (by decide +kernel), List.mem_of_getElem? (i := 707) (by decide +kernel), List.mem_of_getElem? (i := 708) (by decide +kernel)⟩
theorem lw_p23 : lw_okq (⟨"FavoursGoOff$Plan", "layOut", "(LFavoursGoOff$Street;I)V"⟩, 13) := ⟨⟨by decide +kernel, by decide +kernel⟩, List.mem_of_getElem? (i := 208) (by decide +kernel), List.mem_of_getElem? (i := 722) (by decide +kernel), List.mem_of_getElem? (i := 723) (by decide +kernel)⟩
theorem lw_p24 : lw_okq (⟨"FavoursGoOff$Plan", "lookAhead", "()V"⟩, 13) := ⟨⟨by decide +kernel, by decide +kernel⟩, List.mem_of_getElem? (i := 208) (by decide +kernel), List.mem_of_getElem? (i := 728) (by decide +kernel), List.mem_of_getElem? (i := 729) (by decide +kernel)⟩
theorem lw_p25 : lw_okq (⟨"FavoursGoOff$Plan", "keepIfBetter", "(II)V"⟩, 13) := ⟨⟨by decide +kernel, by decide +kernel⟩, List.mem_of_getElem? (i := 208) (by decide +kernel), List.mem_of_getElem? (i := 735) (by decide +kernel), List.mem_of_getElem? (i := 736) (by decide +kernel)⟩
theorem lw_p26 : lw_okq (⟨"FavoursGoOff$Plan", "isNoBetter", "(II)Z"⟩, 13) := ⟨⟨by decide +kernel, by decide +kernel⟩, List.mem_of_getElem? (i := 208) (by decide +kernel), List.mem_of_getElem? (i := 739) (by decide +kernel), List.mem_of_getElem? (i := 740) (by decide +kernel)⟩
theorem lw_p27 : lw_okq (⟨"FavoursGoOff", "imageAt", "(I)LFavoursGoOff$History;"⟩, 13) := ⟨⟨by decide +kernel, by decide +kernel⟩, List.mem_of_getElem? (i := 19) (by decide +kernel), List.mem_of_getElem? (i := 837) (by decide +kernel), List.mem_of_getElem? (i := 838) (by decide +kernel)⟩
theorem lw_p28 : lw_okq (⟨"FavoursGoOff", "howMany", "(I)I"⟩, 13) := ⟨⟨by decide +kernel, by decide +kernel⟩, List.mem_of_getElem? (i := 19) (by decide +kernel), List.mem_of_getElem? (i := 857) (by decide +kernel), List.mem_of_getElem? (i := 858) (by decide +kernel)⟩
theorem lw_p29 : lw_okq (⟨"FavoursGoOffModel", "bad", "(I)I"⟩, 24) := ⟨⟨by decide +kernel, by decide +kernel⟩, List.mem_of_getElem? (i := 872) (by decide +kernel), List.mem_of_getElem? (i := 964) (by decide +kernel), List.mem_of_getElem? (i := 965) (by decide +kernel)⟩
theorem lw_p30 : lw_okq (⟨"FavoursGoOffModel", "many", "()I"⟩, 24) := ⟨⟨by decide +kernel, by decide +kernel⟩, List.mem_of_getElem? (i := 872) (by decide +kernel), List.mem_of_getElem? (i := 968) (by decide +kernel), List.mem_of_getElem? (i := 969) (by decide +kernel)⟩
theorem lw_p31 : lw_okq (⟨"FavoursGoOffModel", "isOne", "(I)Z"⟩, 24) := ⟨⟨by decide +kernel, by decide +kernel⟩, List.mem_of_getElem? (i := 872) (by decide +kernel), List.mem_of_getElem? (i := 976) (by decide +kernel), List.mem_of_getElem? (i := 977) (by decide +kernel)⟩
def lw_privs_2 : List (MethodName × Nat) := [(⟨"FavoursGoOff$Reader", "readNeed", "()V"⟩, 8), (⟨"FavoursGoOff", "no", "(I)I"⟩, 13), (⟨"FavoursGoOff", "findRing", "()V"⟩, 13), (⟨"FavoursGoOff$Circle", "holds", "(II)Z"⟩, 2), (⟨"FavoursGoOff$Debts", "doneFor", "(II)I"⟩, 6), (⟨"FavoursGoOff$Debts", "dueFrom", "(I)I"⟩, 6), (⟨"FavoursGoOff$Debts", "mostGroups", "(I)I"⟩, 6), (⟨"FavoursGoOff$Plan", "layOut", "(LFavoursGoOff$Street;I)V"⟩, 13), (⟨"FavoursGoOff$Plan", "lookAhead", "()V"⟩, 13), (⟨"FavoursGoOff$Plan", "keepIfBetter", "(II)V"⟩, 13), (⟨"FavoursGoOff$Plan", "isNoBetter", "(II)Z"⟩, 13), (⟨"FavoursGoOff", "imageAt", "(I)LFavoursGoOff$History;"⟩, 13), (⟨"FavoursGoOff", "howMany", "(I)I"⟩, 13), (⟨"FavoursGoOffModel", "bad", "(I)I"⟩, 24), (⟨"FavoursGoOffModel", "many", "()I"⟩, 24), (⟨"FavoursGoOffModel", "isOne", "(I)Z"⟩, 24)]
theorem lw_r2 : ∀ q ∈ lw_privs_2, lw_okq q := List.forall_mem_cons.mpr ⟨lw_p16, List.forall_mem_cons.mpr ⟨lw_p17, List.forall_mem_cons.mpr ⟨lw_p18, List.forall_mem_cons.mpr ⟨lw_p19, List.forall_mem_cons.mpr ⟨lw_p20, List.forall_mem_cons.mpr ⟨lw_p21, List.forall_mem_cons.mpr ⟨lw_p22, List.forall_mem_cons.mpr ⟨lw_p23, List.forall_mem_cons.mpr ⟨lw_p24, List.forall_mem_cons.mpr ⟨lw_p25, List.forall_mem_cons.mpr ⟨lw_p26, List.forall_mem_cons.mpr ⟨lw_p27, List.forall_mem_cons.mpr ⟨lw_p28, List.forall_mem_cons.mpr ⟨lw_p29, List.forall_mem_cons.mpr ⟨lw_p30, List.forall_mem_cons.mpr ⟨lw_p31, fun _ h => absurd h List.not_mem_nil⟩⟩⟩⟩⟩⟩⟩⟩⟩⟩⟩⟩⟩⟩⟩⟩
theorem lw_p32 : lw_okq (⟨"FavoursGoOffModel", "full", "()I"⟩, 24) := ⟨⟨by decide +kernel, by decide +kernel⟩, List.mem_of_getElem? (i := 872) (by decide +kernel), List.mem_of_getElem? (i := 994) (by decide +kernel), List.mem_of_getElem? (i := 995) (by decide +kernel)⟩
theorem lw_p33 : lw_okq (⟨"FavoursGoOffModel", "day", "()I"⟩, 24) := ⟨⟨by decide +kernel, by decide +kernel⟩, List.mem_of_getElem? (i := 872) (by decide +kernel), List.mem_of_getElem? (i := 998) (by decide +kernel), List.mem_of_getElem? (i := 999) (by decide +kernel)⟩
theorem lw_p34 : lw_okq (⟨"FavoursGoOffModel", "isFavour", "(I)Z"⟩, 24) := ⟨⟨by decide +kernel, by decide +kernel⟩, List.mem_of_getElem? (i := 872) (by decide +kernel), List.mem_of_getElem? (i := 1020) (by decide +kernel), List.mem_of_getElem? (i := 1021) (by decide +kernel)⟩
theorem lw_p35 : lw_okq (⟨"FavoursGoOffModel", "valueOf", "(II)I"⟩, 24) := ⟨⟨by decide +kernel, by decide +kernel⟩, List.mem_of_getElem? (i := 872) (by decide +kernel), List.mem_of_getElem? (i := 1024) (by decide +kernel), List.mem_of_getElem? (i := 1025) (by decide +kernel)⟩
theorem lw_p36 : lw_okq (⟨"FavoursGoOffModel", "told0", "(II)I"⟩, 24) := ⟨⟨by decide +kernel, by decide +kernel⟩, List.mem_of_getElem? (i := 872) (by decide +kernel), List.mem_of_getElem? (i := 1028) (by decide +kernel), List.mem_of_getElem? (i := 1029) (by decide +kernel)⟩
theorem lw_p37 : lw_okq (⟨"FavoursGoOffModel", "valueNow", "(I)I"⟩, 24) := ⟨⟨by decide +kernel, by decide +kernel⟩, List.mem_of_getElem? (i := 872) (by decide +kernel), List.mem_of_getElem? (i := 1043) (by decide +kernel), List.mem_of_getElem? (i := 1044) (by decide +kernel)⟩
theorem lw_p38 : lw_okq (⟨"FavoursGoOffModel", "no", "(I)I"⟩, 24) := ⟨⟨by decide +kernel, by decide +kernel⟩, List.mem_of_getElem? (i := 872) (by decide +kernel), List.mem_of_getElem? (i := 1047) (by decide +kernel), List.mem_of_getElem? (i := 1048) (by decide +kernel)⟩
theorem lw_p39 : lw_okq (⟨"FavoursGoOffModel", "lose", "(I)V"⟩, 24) := ⟨⟨by decide +kernel, by decide +kernel⟩, List.mem_of_getElem? (i := 872) (by decide +kernel), List.mem_of_getElem? (i := 1051) (by decide +kernel), List.mem_of_getElem? (i := 1052) (by decide +kernel)⟩
theorem lw_p40 : lw_okq (⟨"FavoursGoOffModel", "owesTo", "(II)I"⟩, 24) := ⟨⟨by decide +kernel, by decide +kernel⟩, List.mem_of_getElem? (i := 872) (by decide +kernel), List.mem_of_getElem? (i := 1075) (by decide +kernel), List.mem_of_getElem? (i := 1076) (by decide +kernel)⟩
theorem lw_p41 : lw_okq (⟨"FavoursGoOffModel", "findRing", "()V"⟩, 24) := ⟨⟨by decide +kernel, by decide +kernel⟩, List.mem_of_getElem? (i := 872) (by decide +kernel), List.mem_of_getElem? (i := 1083) (by decide +kernel), List.mem_of_getElem? (i := 1084) (by decide +kernel)⟩
theorem lw_p42 : lw_okq (⟨"FavoursGoOffModel", "layRing", "(II)Z"⟩, 24) := ⟨⟨by decide +kernel, by decide +kernel⟩, List.mem_of_getElem? (i := 872) (by decide +kernel), List.mem_of_getElem? (i := 1087) (by decide +kernel), List.mem_of_getElem? (i := 1088) (by decide +kernel)⟩
theorem lw_p43 : lw_okq (⟨"FavoursGoOffModel", "leastOf", "(II)I"⟩, 24) := ⟨⟨by decide +kernel, by decide +kernel⟩, List.mem_of_getElem? (i := 872) (by decide +kernel), List.mem_of_getElem? (i := 1095) (by decide +kernel), List.mem_of_getElem? (i := 1096) (by decide +kernel)⟩
theorem lw_p44 : lw_okq (⟨"FavoursGoOffModel", "netOf", "(I)I"⟩, 24) := ⟨⟨by decide +kernel, by decide +kernel⟩, List.mem_of_getElem? (i := 872) (by decide +kernel), List.mem_of_getElem? (i := 1103) (by decide +kernel), List.mem_of_getElem? (i := 1104) (by decide +kernel)⟩
theorem lw_p45 : lw_okq (⟨"FavoursGoOffModel", "findMet", "()V"⟩, 24) := ⟨⟨by decide +kernel, by decide +kernel⟩, List.mem_of_getElem? (i := 872) (by decide +kernel), List.mem_of_getElem? (i := 1115) (by decide +kernel), List.mem_of_getElem? (i := 1116) (by decide +kernel)⟩
theorem lw_p46 : lw_okq (⟨"FavoursGoOffModel", "fits", "(I)Z"⟩, 24) := ⟨⟨by decide +kernel, by decide +kernel⟩, List.mem_of_getElem? (i := 872) (by decide +kernel), List.mem_of_getElem? (i := 1119) (by decide +kernel), List.mem_of_getElem? (i := 1120) (by decide +kernel)⟩
theorem lw_p47 : lw_okq (⟨"FavoursGoOffModel", "mayMeet", "(II)Z"⟩, 24) := ⟨⟨by decide +kernel, by decide +kernel⟩, List.mem_of_getElem? (i := 872) (by decide +kernel), List.mem_of_getElem? (i := 1123) (by decide +kernel), List.mem_of_getElem? (i := 1124) (by decide +kernel)⟩
def lw_privs_3 : List (MethodName × Nat) := [(⟨"FavoursGoOffModel", "full", "()I"⟩, 24), (⟨"FavoursGoOffModel", "day", "()I"⟩, 24), (⟨"FavoursGoOffModel", "isFavour", "(I)Z"⟩, 24), (⟨"FavoursGoOffModel", "valueOf", "(II)I"⟩, 24), (⟨"FavoursGoOffModel", "told0", "(II)I"⟩, 24), (⟨"FavoursGoOffModel", "valueNow", "(I)I"⟩, 24), (⟨"FavoursGoOffModel", "no", "(I)I"⟩, 24), (⟨"FavoursGoOffModel", "lose", "(I)V"⟩, 24), (⟨"FavoursGoOffModel", "owesTo", "(II)I"⟩, 24), (⟨"FavoursGoOffModel", "findRing", "()V"⟩, 24), (⟨"FavoursGoOffModel", "layRing", "(II)Z"⟩, 24), (⟨"FavoursGoOffModel", "leastOf", "(II)I"⟩, 24), (⟨"FavoursGoOffModel", "netOf", "(I)I"⟩, 24), (⟨"FavoursGoOffModel", "findMet", "()V"⟩, 24), (⟨"FavoursGoOffModel", "fits", "(I)Z"⟩, 24), (⟨"FavoursGoOffModel", "mayMeet", "(II)Z"⟩, 24)]
theorem lw_r3 : ∀ q ∈ lw_privs_3, lw_okq q := List.forall_mem_cons.mpr ⟨lw_p32, List.forall_mem_cons.mpr ⟨lw_p33, List.forall_mem_cons.mpr ⟨lw_p34, List.forall_mem_cons.mpr ⟨lw_p35, List.forall_mem_cons.mpr ⟨lw_p36, List.forall_mem_cons.mpr ⟨lw_p37, List.forall_mem_cons.mpr ⟨lw_p38, List.forall_mem_cons.mpr ⟨lw_p39, List.forall_mem_cons.mpr ⟨lw_p40, List.forall_mem_cons.mpr ⟨lw_p41, List.forall_mem_cons.mpr ⟨lw_p42, List.forall_mem_cons.mpr ⟨lw_p43, List.forall_mem_cons.mpr ⟨lw_p44, List.forall_mem_cons.mpr ⟨lw_p45, List.forall_mem_cons.mpr ⟨lw_p46, List.forall_mem_cons.mpr ⟨lw_p47, fun _ h => absurd h List.not_mem_nil⟩⟩⟩⟩⟩⟩⟩⟩⟩⟩⟩⟩⟩⟩⟩⟩
theorem lw_p48 : lw_okq (⟨"FavoursGoOffModel", "need0", "(II)I"⟩, 24) := ⟨⟨by decide +kernel, by decide +kernel⟩, List.mem_of_getElem? (i := 872) (by decide +kernel), List.mem_of_getElem? (i := 1127) (by decide +kernel), List.mem_of_getElem? (i := 1128) (by decide +kernel)⟩
theorem lw_p49 : lw_okq (⟨"FavoursGoOffModel", "look", "()V"⟩, 24) := ⟨⟨by decide +kernel, by decide +kernel⟩, List.mem_of_getElem? (i := 872) (by decide +kernel), List.mem_of_getElem? (i := 1131) (by decide +kernel), List.mem_of_getElem? (i := 1132) (by decide +kernel)⟩
theorem lw_p50 : lw_okq (⟨"FavoursGoOffModel", "toDo", "(II)I"⟩, 24) := ⟨⟨by decide +kernel, by decide +kernel⟩, List.mem_of_getElem? (i := 872) (by decide +kernel), List.mem_of_getElem? (i := 1143) (by decide +kernel), List.mem_of_getElem? (i := 1144) (by decide +kernel)⟩
theorem lw_p51 : lw_okq (⟨"FavoursGoOffModel", "doneFor", "(III)I"⟩, 24) := ⟨⟨by decide +kernel, by decide +kernel⟩, List.mem_of_getElem? (i := 872) (by decide +kernel), List.mem_of_getElem? (i := 1147) (by decide +kernel), List.mem_of_getElem? (i := 1148) (by decide +kernel)⟩
theorem lw_p52 : lw_okq (⟨"FavoursGoOffModel", "ratesBy", "(I)I"⟩, 24) := ⟨⟨by decide +kernel, by decide +kernel⟩, List.mem_of_getElem? (i := 872) (by decide +kernel), List.mem_of_getElem? (i := 1155) (by decide +kernel), List.mem_of_getElem? (i := 1156) (by decide +kernel)⟩
theorem lw_p53 : lw_okq (⟨"FavoursGoOffModel", "tells", "(JJ)I"⟩, 24) := ⟨⟨by decide +kernel, by decide +kernel⟩, List.mem_of_getElem? (i := 872) (by decide +kernel), List.mem_of_getElem? (i := 1192) (by decide +kernel), List.mem_of_getElem? (i := 1193) (by decide +kernel)⟩
theorem lw_p54 : lw_okq (⟨"FavoursGoOffModel", "lookAt", "(I)V"⟩, 24) := ⟨⟨by decide +kernel, by decide +kernel⟩, List.mem_of_getElem? (i := 872) (by decide +kernel), List.mem_of_getElem? (i := 1210) (by decide +kernel), List.mem_of_getElem? (i := 1211) (by decide +kernel)⟩
theorem lw_p55 : lw_okq (⟨"FavoursGoOffModel", "readsItem", "(Z)Z"⟩, 24) := ⟨⟨by decide +kernel, by decide +kernel⟩, List.mem_of_getElem? (i := 872) (by decide +kernel), List.mem_of_getElem? (i := 1224) (by decide +kernel), List.mem_of_getElem? (i := 1225) (by decide +kernel)⟩
theorem lw_p56 : lw_okq (⟨"FavoursGoOffModel", "isWord", "(IIIIII)Z"⟩, 24) := ⟨⟨by decide +kernel, by decide +kernel⟩, List.mem_of_getElem? (i := 872) (by decide +kernel), List.mem_of_getElem? (i := 1228) (by decide +kernel), List.mem_of_getElem? (i := 1229) (by decide +kernel)⟩
theorem lw_p57 : lw_okq (⟨"FavoursGoOffModel", "goOn", "()V"⟩, 24) := ⟨⟨by decide +kernel, by decide +kernel⟩, List.mem_of_getElem? (i := 872) (by decide +kernel), List.mem_of_getElem? (i := 1232) (by decide +kernel), List.mem_of_getElem? (i := 1233) (by decide +kernel)⟩
theorem lw_p58 : lw_okq (⟨"FavoursGoOffModel", "takes", "(III)Z"⟩, 24) := ⟨⟨by decide +kernel, by decide +kernel⟩, List.mem_of_getElem? (i := 872) (by decide +kernel), List.mem_of_getElem? (i := 1236) (by decide +kernel), List.mem_of_getElem? (i := 1237) (by decide +kernel)⟩
theorem lw_p59 : lw_okq (⟨"FavoursGoOffModel", "readsStrong", "()Z"⟩, 24) := ⟨⟨by decide +kernel, by decide +kernel⟩, List.mem_of_getElem? (i := 872) (by decide +kernel), List.mem_of_getElem? (i := 1240) (by decide +kernel), List.mem_of_getElem? (i := 1241) (by decide +kernel)⟩
theorem lw_p60 : lw_okq (⟨"FavoursGoOffModel", "readsFavour", "()Z"⟩, 24) := ⟨⟨by decide +kernel, by decide +kernel⟩, List.mem_of_getElem? (i := 872) (by decide +kernel), List.mem_of_getElem? (i := 1244) (by decide +kernel), List.mem_of_getElem? (i := 1245) (by decide +kernel)⟩
theorem lw_p61 : lw_okq (⟨"FavoursGoOffModel", "readsNeed", "()Z"⟩, 24) := ⟨⟨by decide +kernel, by decide +kernel⟩, List.mem_of_getElem? (i := 872) (by decide +kernel), List.mem_of_getElem? (i := 1248) (by decide +kernel), List.mem_of_getElem? (i := 1249) (by decide +kernel)⟩
theorem lw_p62 : lw_okq (⟨"FavoursGoOffModel", "counted", "(I)I"⟩, 24) := ⟨⟨by decide +kernel, by decide +kernel⟩, List.mem_of_getElem? (i := 872) (by decide +kernel), List.mem_of_getElem? (i := 1274) (by decide +kernel), List.mem_of_getElem? (i := 1275) (by decide +kernel)⟩
theorem lw_p63 : lw_okq (⟨"FavoursGoOffModel", "sums", "(JII)J"⟩, 24) := ⟨⟨by decide +kernel, by decide +kernel⟩, List.mem_of_getElem? (i := 872) (by decide +kernel), List.mem_of_getElem? (i := 1284) (by decide +kernel), List.mem_of_getElem? (i := 1285) (by decide +kernel)⟩
def lw_privs_4 : List (MethodName × Nat) := [(⟨"FavoursGoOffModel", "need0", "(II)I"⟩, 24), (⟨"FavoursGoOffModel", "look", "()V"⟩, 24), (⟨"FavoursGoOffModel", "toDo", "(II)I"⟩, 24), (⟨"FavoursGoOffModel", "doneFor", "(III)I"⟩, 24), (⟨"FavoursGoOffModel", "ratesBy", "(I)I"⟩, 24), (⟨"FavoursGoOffModel", "tells", "(JJ)I"⟩, 24), (⟨"FavoursGoOffModel", "lookAt", "(I)V"⟩, 24), (⟨"FavoursGoOffModel", "readsItem", "(Z)Z"⟩, 24), (⟨"FavoursGoOffModel", "isWord", "(IIIIII)Z"⟩, 24), (⟨"FavoursGoOffModel", "goOn", "()V"⟩, 24), (⟨"FavoursGoOffModel", "takes", "(III)Z"⟩, 24), (⟨"FavoursGoOffModel", "readsStrong", "()Z"⟩, 24), (⟨"FavoursGoOffModel", "readsFavour", "()Z"⟩, 24), (⟨"FavoursGoOffModel", "readsNeed", "()Z"⟩, 24), (⟨"FavoursGoOffModel", "counted", "(I)I"⟩, 24), (⟨"FavoursGoOffModel", "sums", "(JII)J"⟩, 24)]
theorem lw_r4 : ∀ q ∈ lw_privs_4, lw_okq q := List.forall_mem_cons.mpr ⟨lw_p48, List.forall_mem_cons.mpr ⟨lw_p49, List.forall_mem_cons.mpr ⟨lw_p50, List.forall_mem_cons.mpr ⟨lw_p51, List.forall_mem_cons.mpr ⟨lw_p52, List.forall_mem_cons.mpr ⟨lw_p53, List.forall_mem_cons.mpr ⟨lw_p54, List.forall_mem_cons.mpr ⟨lw_p55, List.forall_mem_cons.mpr ⟨lw_p56, List.forall_mem_cons.mpr ⟨lw_p57, List.forall_mem_cons.mpr ⟨lw_p58, List.forall_mem_cons.mpr ⟨lw_p59, List.forall_mem_cons.mpr ⟨lw_p60, List.forall_mem_cons.mpr ⟨lw_p61, List.forall_mem_cons.mpr ⟨lw_p62, List.forall_mem_cons.mpr ⟨lw_p63, fun _ h => absurd h List.not_mem_nil⟩⟩⟩⟩⟩⟩⟩⟩⟩⟩⟩⟩⟩⟩⟩⟩
def lw_privs : List (MethodName × Nat) := lw_privs_1 ++ (lw_privs_2 ++ (lw_privs_3 ++ (lw_privs_4)))
def lw_tbl : List Cond := k2_sels lw_privs ++ tables_1
theorem lw_privs_ok : ∀ q ∈ lw_privs, lw_okq q := by
  show ∀ q ∈ lw_privs_1 ++ (lw_privs_2 ++ (lw_privs_3 ++ (lw_privs_4))), lw_okq q
  exact List.forall_mem_append.mpr ⟨lw_r1, List.forall_mem_append.mpr ⟨lw_r2, List.forall_mem_append.mpr ⟨lw_r3, lw_r4⟩⟩⟩

def RX0 : String := "FavoursGoOff$Circle"
def TX0 : u_T := fun k => match k with
  | 0 => ("FavoursGoOff$Circle", "members", "[I", true)
  | _ => ("FavoursGoOff$Circle", "length", "I", false)
def tyX0 : Nat → FieldType := fun k => match k with
  | 0 => .array .int
  | _ => .int
abbrev wsX00 : List Cond := u_ws RX0 TX0 2
theorem nmX0 : ∀ a, a < 2 → ∀ b, b < 2 → a ≠ b → (TX0 a).2.1 ≠ (TX0 b).2.1 := by decide +kernel
theorem tyX0_ok : ∀ k, k < 2 → parseFieldDescriptor (TX0 k).2.2.1 = some (tyX0 k) := by decide +kernel
abbrev cX0_init : ByteArray := prog_2_method_1_code
def yX0_init : MethodName := ⟨RX0, "<init>", "()V"⟩
abbrev cX0_find : ByteArray := prog_2_method_2_code
def yX0_find : MethodName := ⟨RX0, "find", "(LFavoursGoOff$Debts;)V"⟩
abbrev cX0_member : ByteArray := prog_2_method_3_code
def yX0_member : MethodName := ⟨RX0, "member", "(I)I"⟩
abbrev cX0_closes : ByteArray := prog_2_method_4_code
def yX0_closes : MethodName := ⟨RX0, "closes", "(LFavoursGoOff$Circle;LFavoursGoOff$Debts;II)Z"⟩
abbrev cX0_holds : ByteArray := prog_2_method_5_code
def yX0_holds : MethodName := ⟨RX0, "holds", "(II)Z"⟩
def RX1 : String := "FavoursGoOff$Debts"
def TX1 : u_T := fun k => match k with
  | 0 => ("FavoursGoOff$Debts", "sums", "LFavoursGoOff$Table;", true)
  | 1 => ("FavoursGoOff$Debts", "nets", "[I", true)
  | 2 => ("FavoursGoOff$Debts", "groups", "[I", true)
  | 3 => ("FavoursGoOff$Debts", "people", "I", false)
  | 4 => ("FavoursGoOff$Debts", "fallen", "I", false)
  | _ => ("FavoursGoOff$Debts", "rounds", "I", false)
def tyX1 : Nat → FieldType := fun k => match k with
  | 0 => .object "FavoursGoOff$Table"
  | 1 => .array .int
  | 2 => .array .int
  | 3 => .int
  | 4 => .int
  | _ => .int
abbrev wsX10 : List Cond := u_ws RX1 TX1 6
theorem nmX1 : ∀ a, a < 6 → ∀ b, b < 6 → a ≠ b → (TX1 a).2.1 ≠ (TX1 b).2.1 := by decide +kernel
theorem tyX1_ok : ∀ k, k < 6 → parseFieldDescriptor (TX1 k).2.2.1 = some (tyX1 k) := by decide +kernel
abbrev cX1_init : ByteArray := prog_3_method_1_code
def yX1_init : MethodName := ⟨RX1, "<init>", "()V"⟩
abbrev cX1_addUp : ByteArray := prog_3_method_2_code
def yX1_addUp : MethodName := ⟨RX1, "addUp", "(LFavoursGoOff$Street;I)V"⟩
abbrev cX1_between : ByteArray := prog_3_method_3_code
def yX1_between : MethodName := ⟨RX1, "between", "(II)I"⟩
abbrev cX1_balance : ByteArray := prog_3_method_4_code
def yX1_balance : MethodName := ⟨RX1, "balance", "(I)I"⟩
abbrev cX1_fewestPayments : ByteArray := prog_3_method_5_code
def yX1_fewestPayments : MethodName := ⟨RX1, "fewestPayments", "()I"⟩
abbrev cX1_mostGroups : ByteArray := prog_3_method_6_code
def yX1_mostGroups : MethodName := ⟨RX1, "mostGroups", "(I)I"⟩
abbrev cX1_callAllIn : ByteArray := prog_3_method_7_code
def yX1_callAllIn : MethodName := ⟨RX1, "callAllIn", "(LFavoursGoOff$Table;)V"⟩
abbrev cX1_dueFrom : ByteArray := prog_3_method_8_code
def yX1_dueFrom : MethodName := ⟨RX1, "dueFrom", "(I)I"⟩
abbrev cX1_doneFor : ByteArray := prog_3_method_9_code
def yX1_doneFor : MethodName := ⟨RX1, "doneFor", "(II)I"⟩
def RX2 : String := "FavoursGoOff$Fraction"
def TX2 : u_T := fun k => match k with
  | 0 => ("FavoursGoOff$Fraction", "above", "J", false)
  | _ => ("FavoursGoOff$Fraction", "below", "J", false)
def tyX2 : Nat → FieldType := fun k => match k with
  | 0 => .long
  | _ => .long
abbrev wsX20 : List Cond := u_ws RX2 TX2 2
theorem nmX2 : ∀ a, a < 2 → ∀ b, b < 2 → a ≠ b → (TX2 a).2.1 ≠ (TX2 b).2.1 := by decide +kernel
theorem tyX2_ok : ∀ k, k < 2 → parseFieldDescriptor (TX2 k).2.2.1 = some (tyX2 k) := by decide +kernel
abbrev cX2_init : ByteArray := prog_4_method_1_code
def yX2_init : MethodName := ⟨RX2, "<init>", "()V"⟩
abbrev cX2_become : ByteArray := prog_4_method_2_code
def yX2_become : MethodName := ⟨RX2, "become", "(JJ)V"⟩
abbrev cX2_commonDivisor : ByteArray := prog_4_method_3_code
def yX2_commonDivisor : MethodName := ⟨RX2, "commonDivisor", "(JJ)J"⟩
def RX3 : String := "FavoursGoOff$History"
def TX3 : u_T := fun k => match k with
  | 0 => ("FavoursGoOff$History", "now", "LFavoursGoOff$Street;", true)
  | 1 => ("FavoursGoOff$History", "last", "LFavoursGoOff$Street;", true)
  | 2 => ("FavoursGoOff$History", "before", "LFavoursGoOff$Street;", true)
  | 3 => ("FavoursGoOff$History", "nights", "I", false)
  | _ => ("FavoursGoOff$History", "isKept", "Z", false)
def tyX3 : Nat → FieldType := fun k => match k with
  | 0 => .object "FavoursGoOff$Street"
  | 1 => .object "FavoursGoOff$Street"
  | 2 => .object "FavoursGoOff$Street"
  | 3 => .int
  | _ => .boolean
abbrev wsX30 : List Cond := u_ws RX3 TX3 5
theorem nmX3 : ∀ a, a < 5 → ∀ b, b < 5 → a ≠ b → (TX3 a).2.1 ≠ (TX3 b).2.1 := by decide +kernel
theorem tyX3_ok : ∀ k, k < 5 → parseFieldDescriptor (TX3 k).2.2.1 = some (tyX3 k) := by decide +kernel
abbrev cX3_init : ByteArray := prog_5_method_1_code
def yX3_init : MethodName := ⟨RX3, "<init>", "()V"⟩
abbrev cX3_keepNight : ByteArray := prog_5_method_2_code
def yX3_keepNight : MethodName := ⟨RX3, "keepNight", "()V"⟩
abbrev cX3_goBack : ByteArray := prog_5_method_3_code
def yX3_goBack : MethodName := ⟨RX3, "goBack", "()V"⟩
abbrev cX3_copyFrom : ByteArray := prog_5_method_4_code
def yX3_copyFrom : MethodName := ⟨RX3, "copyFrom", "(LFavoursGoOff$History;)V"⟩
def RX4 : String := "FavoursGoOff$Plan"
def TX4 : u_T := fun k => match k with
  | 0 => ("FavoursGoOff$Plan", "stale", "Z", false)
  | 1 => ("FavoursGoOff$Plan", "mostMet", "I", false)
  | 2 => ("FavoursGoOff$Plan", "leastSpent", "I", false)
  | 3 => ("FavoursGoOff$Plan", "needs", "I", false)
  | 4 => ("FavoursGoOff$Plan", "favours", "I", false)
  | 5 => ("FavoursGoOff$Plan", "values", "LFavoursGoOff$Table;", true)
  | 6 => ("FavoursGoOff$Plan", "rooms", "LFavoursGoOff$Table;", true)
  | 7 => ("FavoursGoOff$Plan", "dayRows", "[I", true)
  | 8 => ("FavoursGoOff$Plan", "doers", "[I", true)
  | 9 => ("FavoursGoOff$Plan", "hopes", "[I", true)
  | 10 => ("FavoursGoOff$Plan", "costs", "[I", true)
  | 11 => ("FavoursGoOff$Plan", "tried", "[I", true)
  | _ => ("FavoursGoOff$Plan", "best", "[I", true)
def tyX4 : Nat → FieldType := fun k => match k with
  | 0 => .boolean
  | 1 => .int
  | 2 => .int
  | 3 => .int
  | 4 => .int
  | 5 => .object "FavoursGoOff$Table"
  | 6 => .object "FavoursGoOff$Table"
  | 7 => .array .int
  | 8 => .array .int
  | 9 => .array .int
  | 10 => .array .int
  | 11 => .array .int
  | _ => .array .int
abbrev wsX40 : List Cond := u_ws RX4 TX4 13
theorem nmX4 : ∀ a, a < 13 → ∀ b, b < 13 → a ≠ b → (TX4 a).2.1 ≠ (TX4 b).2.1 := by decide +kernel
theorem tyX4_ok : ∀ k, k < 13 → parseFieldDescriptor (TX4 k).2.2.1 = some (tyX4 k) := by decide +kernel
abbrev cX4_init : ByteArray := prog_6_method_1_code
def yX4_init : MethodName := ⟨RX4, "<init>", "()V"⟩
abbrev cX4_make : ByteArray := prog_6_method_2_code
def yX4_make : MethodName := ⟨RX4, "make", "(LFavoursGoOff$Street;)V"⟩
abbrev cX4_favourOf : ByteArray := prog_6_method_3_code
def yX4_favourOf : MethodName := ⟨RX4, "favourOf", "(I)I"⟩
abbrev cX4_layOut : ByteArray := prog_6_method_4_code
def yX4_layOut : MethodName := ⟨RX4, "layOut", "(LFavoursGoOff$Street;I)V"⟩
abbrev cX4_lookAhead : ByteArray := prog_6_method_5_code
def yX4_lookAhead : MethodName := ⟨RX4, "lookAhead", "()V"⟩
abbrev cX4_search : ByteArray := prog_6_method_6_code
def yX4_search : MethodName := ⟨RX4, "search", "(LFavoursGoOff$Plan;IIII)V"⟩
abbrev cX4_isNoBetter : ByteArray := prog_6_method_7_code
def yX4_isNoBetter : MethodName := ⟨RX4, "isNoBetter", "(II)Z"⟩
abbrev cX4_keepIfBetter : ByteArray := prog_6_method_8_code
def yX4_keepIfBetter : MethodName := ⟨RX4, "keepIfBetter", "(II)V"⟩
def RX5 : String := "FavoursGoOff$Reader"
def TX5 : u_T := fun k => match k with
  | 0 => ("FavoursGoOff$Reader", "text", "LFavoursGoOff$Text;", true)
  | 1 => ("FavoursGoOff$Reader", "draft", "LFavoursGoOff$Street;", true)
  | 2 => ("FavoursGoOff$Reader", "fault", "I", false)
  | 3 => ("FavoursGoOff$Reader", "token", "I", false)
  | 4 => ("FavoursGoOff$Reader", "start", "I", false)
  | 5 => ("FavoursGoOff$Reader", "next", "I", false)
  | 6 => ("FavoursGoOff$Reader", "number", "I", false)
  | _ => ("FavoursGoOff$Reader", "lastPerson", "I", false)
def tyX5 : Nat → FieldType := fun k => match k with
  | 0 => .object "FavoursGoOff$Text"
  | 1 => .object "FavoursGoOff$Street"
  | 2 => .int
  | 3 => .int
  | 4 => .int
  | 5 => .int
  | 6 => .int
  | _ => .int
abbrev wsX50 : List Cond := u_ws RX5 TX5 8
theorem nmX5 : ∀ a, a < 8 → ∀ b, b < 8 → a ≠ b → (TX5 a).2.1 ≠ (TX5 b).2.1 := by decide +kernel
theorem tyX5_ok : ∀ k, k < 8 → parseFieldDescriptor (TX5 k).2.2.1 = some (tyX5 k) := by decide +kernel
abbrev cX5_init : ByteArray := prog_7_method_1_code
def yX5_init : MethodName := ⟨RX5, "<init>", "()V"⟩
abbrev cX5_readStreet : ByteArray := prog_7_method_2_code
def yX5_readStreet : MethodName := ⟨RX5, "readStreet", "()I"⟩
abbrev cX5_readPeople : ByteArray := prog_7_method_3_code
def yX5_readPeople : MethodName := ⟨RX5, "readPeople", "()V"⟩
abbrev cX5_readItem : ByteArray := prog_7_method_4_code
def yX5_readItem : MethodName := ⟨RX5, "readItem", "()V"⟩
abbrev cX5_readStrong : ByteArray := prog_7_method_5_code
def yX5_readStrong : MethodName := ⟨RX5, "readStrong", "()V"⟩
abbrev cX5_readFavour : ByteArray := prog_7_method_6_code
def yX5_readFavour : MethodName := ⟨RX5, "readFavour", "()V"⟩
abbrev cX5_readNeed : ByteArray := prog_7_method_7_code
def yX5_readNeed : MethodName := ⟨RX5, "readNeed", "()V"⟩
abbrev cX5_refuse : ByteArray := prog_7_method_8_code
def yX5_refuse : MethodName := ⟨RX5, "refuse", "(I)V"⟩
abbrev cX5_takeNumber : ByteArray := prog_7_method_9_code
def yX5_takeNumber : MethodName := ⟨RX5, "takeNumber", "(II)I"⟩
abbrev cX5_takeStop : ByteArray := prog_7_method_10_code
def yX5_takeStop : MethodName := ⟨RX5, "takeStop", "()V"⟩
abbrev cX5_fail : ByteArray := prog_7_method_11_code
def yX5_fail : MethodName := ⟨RX5, "fail", "()V"⟩
abbrev cX5_step : ByteArray := prog_7_method_12_code
def yX5_step : MethodName := ⟨RX5, "step", "()V"⟩
abbrev cX5_endOfRun : ByteArray := prog_7_method_13_code
def yX5_endOfRun : MethodName := ⟨RX5, "endOfRun", "(II)I"⟩
abbrev cX5_takeFigures : ByteArray := prog_7_method_14_code
def yX5_takeFigures : MethodName := ⟨RX5, "takeFigures", "()V"⟩
abbrev cX5_isWord : ByteArray := prog_7_method_15_code
def yX5_isWord : MethodName := ⟨RX5, "isWord", "(Ljava/lang/String;)Z"⟩
def RX6 : String := "FavoursGoOff$Street"
def TX6 : u_T := fun k => match k with
  | 0 => ("FavoursGoOff$Street", "people", "LFavoursGoOff$Table;", true)
  | 1 => ("FavoursGoOff$Street", "favours", "LFavoursGoOff$Table;", true)
  | 2 => ("FavoursGoOff$Street", "needs", "LFavoursGoOff$Table;", true)
  | 3 => ("FavoursGoOff$Street", "passes", "LFavoursGoOff$Table;", true)
  | 4 => ("FavoursGoOff$Street", "rates", "LFavoursGoOff$Table;", true)
  | _ => ("FavoursGoOff$Street", "day", "I", false)
def tyX6 : Nat → FieldType := fun k => match k with
  | 0 => .object "FavoursGoOff$Table"
  | 1 => .object "FavoursGoOff$Table"
  | 2 => .object "FavoursGoOff$Table"
  | 3 => .object "FavoursGoOff$Table"
  | 4 => .object "FavoursGoOff$Table"
  | _ => .int
abbrev wsX60 : List Cond := u_ws RX6 TX6 6
theorem nmX6 : ∀ a, a < 6 → ∀ b, b < 6 → a ≠ b → (TX6 a).2.1 ≠ (TX6 b).2.1 := by decide +kernel
theorem tyX6_ok : ∀ k, k < 6 → parseFieldDescriptor (TX6 k).2.2.1 = some (tyX6 k) := by decide +kernel
abbrev cX6_init : ByteArray := prog_8_method_1_code
def yX6_init : MethodName := ⟨RX6, "<init>", "()V"⟩
abbrev cX6_open : ByteArray := prog_8_method_2_code
def yX6_open : MethodName := ⟨RX6, "open", "(I)V"⟩
abbrev cX6_copyFrom : ByteArray := prog_8_method_3_code
def yX6_copyFrom : MethodName := ⟨RX6, "copyFrom", "(LFavoursGoOff$Street;)V"⟩
abbrev cX6_takeAllButRates : ByteArray := prog_8_method_4_code
def yX6_takeAllButRates : MethodName := ⟨RX6, "takeAllButRates", "(LFavoursGoOff$Street;)V"⟩
abbrev cX6_addFavour : ByteArray := prog_8_method_5_code
def yX6_addFavour : MethodName := ⟨RX6, "addFavour", "(IIIIII)I"⟩
abbrev cX6_addNeed : ByteArray := prog_8_method_6_code
def yX6_addNeed : MethodName := ⟨RX6, "addNeed", "(IIII)I"⟩
abbrev cX6_addPass : ByteArray := prog_8_method_7_code
def yX6_addPass : MethodName := ⟨RX6, "addPass", "(III)I"⟩
abbrev cX6_wake : ByteArray := prog_8_method_8_code
def yX6_wake : MethodName := ⟨RX6, "wake", "()V"⟩
abbrev cX6_valueNow : ByteArray := prog_8_method_9_code
def yX6_valueNow : MethodName := ⟨RX6, "valueNow", "(I)I"⟩
abbrev cX6_valueOn : ByteArray := prog_8_method_10_code
def yX6_valueOn : MethodName := ⟨RX6, "valueOn", "(II)I"⟩
abbrev cX6_areAlike : ByteArray := prog_8_method_11_code
def yX6_areAlike : MethodName := ⟨RX6, "areAlike", "(II)Z"⟩
abbrev cX6_merge : ByteArray := prog_8_method_12_code
def yX6_merge : MethodName := ⟨RX6, "merge", "(II)I"⟩
abbrev cX6_cheapest : ByteArray := prog_8_method_13_code
def yX6_cheapest : MethodName := ⟨RX6, "cheapest", "(II)I"⟩
abbrev cX6_holderAhead : ByteArray := prog_8_method_14_code
def yX6_holderAhead : MethodName := ⟨RX6, "holderAhead", "(I)I"⟩
abbrev cX6_rateNow : ByteArray := prog_8_method_15_code
def yX6_rateNow : MethodName := ⟨RX6, "rateNow", "(I)I"⟩
abbrev cX6_setRate : ByteArray := prog_8_method_16_code
def yX6_setRate : MethodName := ⟨RX6, "setRate", "(II)V"⟩
abbrev cX6_drift : ByteArray := prog_8_method_17_code
def yX6_drift : MethodName := ⟨RX6, "drift", "(I)I"⟩
def RX7 : String := "FavoursGoOff$Table"
def TX7 : u_T := fun k => match k with
  | 0 => ("FavoursGoOff$Table", "width", "I", true)
  | 1 => ("FavoursGoOff$Table", "cells", "[I", true)
  | _ => ("FavoursGoOff$Table", "rows", "I", false)
def tyX7 : Nat → FieldType := fun k => match k with
  | 0 => .int
  | 1 => .array .int
  | _ => .int
abbrev wsX70 : List Cond := u_ws RX7 TX7 3
theorem nmX7 : ∀ a, a < 3 → ∀ b, b < 3 → a ≠ b → (TX7 a).2.1 ≠ (TX7 b).2.1 := by decide +kernel
theorem tyX7_ok : ∀ k, k < 3 → parseFieldDescriptor (TX7 k).2.2.1 = some (tyX7 k) := by decide +kernel
abbrev cX7_init : ByteArray := prog_9_method_1_code
def yX7_init : MethodName := ⟨RX7, "<init>", "(II)V"⟩
abbrev cX7_has : ByteArray := prog_9_method_2_code
def yX7_has : MethodName := ⟨RX7, "has", "(I)Z"⟩
abbrev cX7_isFull : ByteArray := prog_9_method_3_code
def yX7_isFull : MethodName := ⟨RX7, "isFull", "()Z"⟩
abbrev cX7_at : ByteArray := prog_9_method_4_code
def yX7_at : MethodName := ⟨RX7, "at", "(II)I"⟩
abbrev cX7_put : ByteArray := prog_9_method_5_code
def yX7_put : MethodName := ⟨RX7, "put", "(III)V"⟩
abbrev cX7_more : ByteArray := prog_9_method_6_code
def yX7_more : MethodName := ⟨RX7, "more", "(III)V"⟩
abbrev cX7_fillRow : ByteArray := prog_9_method_7_code
def yX7_fillRow : MethodName := ⟨RX7, "fillRow", "(II)V"⟩
abbrev cX7_add : ByteArray := prog_9_method_8_code
def yX7_add : MethodName := ⟨RX7, "add", "()I"⟩
abbrev cX7_empty : ByteArray := prog_9_method_9_code
def yX7_empty : MethodName := ⟨RX7, "empty", "()I"⟩
abbrev cX7_copyFrom : ByteArray := prog_9_method_10_code
def yX7_copyFrom : MethodName := ⟨RX7, "copyFrom", "(LFavoursGoOff$Table;)V"⟩
abbrev cX7_mixedInto : ByteArray := prog_9_method_11_code
def yX7_mixedInto : MethodName := ⟨RX7, "mixedInto", "(J)J"⟩
abbrev cX7_placeOf : ByteArray := prog_9_method_12_code
def yX7_placeOf : MethodName := ⟨RX7, "placeOf", "(II)I"⟩
def RX8 : String := "FavoursGoOff$Text"
def TX8 : u_T := fun k => match k with
  | 0 => ("FavoursGoOff$Text", "bytes", "[I", true)
  | _ => ("FavoursGoOff$Text", "length", "I", false)
def tyX8 : Nat → FieldType := fun k => match k with
  | 0 => .array .int
  | _ => .int
abbrev wsX80 : List Cond := u_ws RX8 TX8 2
theorem nmX8 : ∀ a, a < 2 → ∀ b, b < 2 → a ≠ b → (TX8 a).2.1 ≠ (TX8 b).2.1 := by decide +kernel
theorem tyX8_ok : ∀ k, k < 2 → parseFieldDescriptor (TX8 k).2.2.1 = some (tyX8 k) := by decide +kernel
abbrev cX8_init : ByteArray := prog_10_method_1_code
def yX8_init : MethodName := ⟨RX8, "<init>", "()V"⟩
abbrev cX8_add : ByteArray := prog_10_method_2_code
def yX8_add : MethodName := ⟨RX8, "add", "(I)V"⟩
abbrev cX8_at : ByteArray := prog_10_method_3_code
def yX8_at : MethodName := ⟨RX8, "at", "(I)I"⟩
def RX9 : String := "FavoursGoOff"
def TX9 : u_T := fun k => match k with
  | 0 => ("FavoursGoOff", "life", "LFavoursGoOff$History;", true)
  | 1 => ("FavoursGoOff", "imageZero", "LFavoursGoOff$History;", true)
  | 2 => ("FavoursGoOff", "imageOne", "LFavoursGoOff$History;", true)
  | 3 => ("FavoursGoOff", "street", "LFavoursGoOff$Street;", true)
  | 4 => ("FavoursGoOff", "reader", "LFavoursGoOff$Reader;", true)
  | 5 => ("FavoursGoOff", "text", "LFavoursGoOff$Text;", true)
  | 6 => ("FavoursGoOff", "debts", "LFavoursGoOff$Debts;", true)
  | 7 => ("FavoursGoOff", "circle", "LFavoursGoOff$Circle;", true)
  | 8 => ("FavoursGoOff", "plan", "LFavoursGoOff$Plan;", true)
  | 9 => ("FavoursGoOff", "fraction", "LFavoursGoOff$Fraction;", true)
  | 10 => ("FavoursGoOff", "refusedBad", "I", false)
  | 11 => ("FavoursGoOff", "refusedNo", "I", false)
  | _ => ("FavoursGoOff", "refusedFull", "I", false)
def tyX9 : Nat → FieldType := fun k => match k with
  | 0 => .object "FavoursGoOff$History"
  | 1 => .object "FavoursGoOff$History"
  | 2 => .object "FavoursGoOff$History"
  | 3 => .object "FavoursGoOff$Street"
  | 4 => .object "FavoursGoOff$Reader"
  | 5 => .object "FavoursGoOff$Text"
  | 6 => .object "FavoursGoOff$Debts"
  | 7 => .object "FavoursGoOff$Circle"
  | 8 => .object "FavoursGoOff$Plan"
  | 9 => .object "FavoursGoOff$Fraction"
  | 10 => .int
  | 11 => .int
  | _ => .int
abbrev wsX90 : List Cond := u_ws RX9 TX9 13
theorem nmX9 : ∀ a, a < 13 → ∀ b, b < 13 → a ≠ b → (TX9 a).2.1 ≠ (TX9 b).2.1 := by decide +kernel
theorem tyX9_ok : ∀ k, k < 13 → parseFieldDescriptor (TX9 k).2.2.1 = some (tyX9 k) := by decide +kernel
abbrev cX9_init : ByteArray := prog_1_method_1_code
def yX9_init : MethodName := ⟨RX9, "<init>", "()V"⟩
abbrev cX9_people : ByteArray := prog_1_method_2_code
def yX9_people : MethodName := ⟨RX9, "people", "(I)I"⟩
abbrev cX9_strong : ByteArray := prog_1_method_3_code
def yX9_strong : MethodName := ⟨RX9, "strong", "(II)I"⟩
abbrev cX9_favour : ByteArray := prog_1_method_4_code
def yX9_favour : MethodName := ⟨RX9, "favour", "(IIIIII)I"⟩
abbrev cX9_need : ByteArray := prog_1_method_5_code
def yX9_need : MethodName := ⟨RX9, "need", "(IIII)I"⟩
abbrev cX9_contented : ByteArray := prog_1_method_6_code
def yX9_contented : MethodName := ⟨RX9, "contented", "()I"⟩
abbrev cX9_type : ByteArray := prog_1_method_7_code
def yX9_type : MethodName := ⟨RX9, "type", "(JI)I"⟩
abbrev cX9_clear : ByteArray := prog_1_method_8_code
def yX9_clear : MethodName := ⟨RX9, "clear", "()I"⟩
abbrev cX9_read : ByteArray := prog_1_method_9_code
def yX9_read : MethodName := ⟨RX9, "read", "()I"⟩
abbrev cX9_value : ByteArray := prog_1_method_10_code
def yX9_value : MethodName := ⟨RX9, "value", "(II)I"⟩
abbrev cX9_of : ByteArray := prog_1_method_11_code
def yX9_of : MethodName := ⟨RX9, "of", "(I)I"⟩
abbrev cX9_pass : ByteArray := prog_1_method_12_code
def yX9_pass : MethodName := ⟨RX9, "pass", "(II)I"⟩
abbrev cX9_join : ByteArray := prog_1_method_13_code
def yX9_join : MethodName := ⟨RX9, "join", "(II)I"⟩
abbrev cX9_ask : ByteArray := prog_1_method_14_code
def yX9_ask : MethodName := ⟨RX9, "ask", "(I)I"⟩
abbrev cX9_night : ByteArray := prog_1_method_15_code
def yX9_night : MethodName := ⟨RX9, "night", "()I"⟩
abbrev cX9_undo : ByteArray := prog_1_method_16_code
def yX9_undo : MethodName := ⟨RX9, "undo", "()I"⟩
abbrev cX9_owes : ByteArray := prog_1_method_17_code
def yX9_owes : MethodName := ⟨RX9, "owes", "(II)I"⟩
abbrev cX9_ring : ByteArray := prog_1_method_18_code
def yX9_ring : MethodName := ⟨RX9, "ring", "(I)I"⟩
abbrev cX9_cancel : ByteArray := prog_1_method_19_code
def yX9_cancel : MethodName := ⟨RX9, "cancel", "()I"⟩
abbrev cX9_net : ByteArray := prog_1_method_20_code
def yX9_net : MethodName := ⟨RX9, "net", "(I)I"⟩
abbrev cX9_fewest : ByteArray := prog_1_method_21_code
def yX9_fewest : MethodName := ⟨RX9, "fewest", "()I"⟩
abbrev cX9_met : ByteArray := prog_1_method_22_code
def yX9_met : MethodName := ⟨RX9, "met", "(I)I"⟩
abbrev cX9_plan : ByteArray := prog_1_method_23_code
def yX9_plan : MethodName := ⟨RX9, "plan", "(I)I"⟩
abbrev cX9_fire : ByteArray := prog_1_method_24_code
def yX9_fire : MethodName := ⟨RX9, "fire", "(II)I"⟩
abbrev cX9_rate : ByteArray := prog_1_method_25_code
def yX9_rate : MethodName := ⟨RX9, "rate", "(II)I"⟩
abbrev cX9_set : ByteArray := prog_1_method_26_code
def yX9_set : MethodName := ⟨RX9, "set", "(II)I"⟩
abbrev cX9_settles : ByteArray := prog_1_method_27_code
def yX9_settles : MethodName := ⟨RX9, "settles", "()I"⟩
abbrev cX9_told : ByteArray := prog_1_method_28_code
def yX9_told : MethodName := ⟨RX9, "told", "(III)I"⟩
abbrev cX9_forged : ByteArray := prog_1_method_29_code
def yX9_forged : MethodName := ⟨RX9, "forged", "()I"⟩
abbrev cX9_forget : ByteArray := prog_1_method_30_code
def yX9_forget : MethodName := ⟨RX9, "forget", "()I"⟩
abbrev cX9_goesOff : ByteArray := prog_1_method_31_code
def yX9_goesOff : MethodName := ⟨RX9, "goesOff", "(I)I"⟩
abbrev cX9_kept : ByteArray := prog_1_method_32_code
def yX9_kept : MethodName := ⟨RX9, "kept", "(II)I"⟩
abbrev cX9_part : ByteArray := prog_1_method_33_code
def yX9_part : MethodName := ⟨RX9, "part", "(I)J"⟩
abbrev cX9_image : ByteArray := prog_1_method_34_code
def yX9_image : MethodName := ⟨RX9, "image", "(I)I"⟩
abbrev cX9_from : ByteArray := prog_1_method_35_code
def yX9_from : MethodName := ⟨RX9, "from", "(I)I"⟩
abbrev cX9_status : ByteArray := prog_1_method_36_code
def yX9_status : MethodName := ⟨RX9, "status", "(I)I"⟩
abbrev cX9_count : ByteArray := prog_1_method_37_code
def yX9_count : MethodName := ⟨RX9, "count", "(I)I"⟩
abbrev cX9_digest : ByteArray := prog_1_method_38_code
def yX9_digest : MethodName := ⟨RX9, "digest", "()J"⟩
abbrev cX9_howMany : ByteArray := prog_1_method_39_code
def yX9_howMany : MethodName := ⟨RX9, "howMany", "(I)I"⟩
abbrev cX9_imageAt : ByteArray := prog_1_method_40_code
def yX9_imageAt : MethodName := ⟨RX9, "imageAt", "(I)LFavoursGoOff$History;"⟩
abbrev cX9_findRing : ByteArray := prog_1_method_41_code
def yX9_findRing : MethodName := ⟨RX9, "findRing", "()V"⟩
abbrev cX9_bad : ByteArray := prog_1_method_42_code
def yX9_bad : MethodName := ⟨RX9, "bad", "(I)I"⟩
abbrev cX9_no : ByteArray := prog_1_method_43_code
def yX9_no : MethodName := ⟨RX9, "no", "(I)I"⟩
abbrev cX9_full : ByteArray := prog_1_method_44_code
def yX9_full : MethodName := ⟨RX9, "full", "()I"⟩
abbrev cX9_isDayToCome : ByteArray := prog_1_method_45_code
def yX9_isDayToCome : MethodName := ⟨RX9, "isDayToCome", "(I)Z"⟩
abbrev cX9_isDay : ByteArray := prog_1_method_46_code
def yX9_isDay : MethodName := ⟨RX9, "isDay", "(I)Z"⟩
abbrev cX9_isThing : ByteArray := prog_1_method_47_code
def yX9_isThing : MethodName := ⟨RX9, "isThing", "(I)Z"⟩
abbrev cX9_isWithin : ByteArray := prog_1_method_48_code
def yX9_isWithin : MethodName := ⟨RX9, "isWithin", "(III)Z"⟩
abbrev cX9_heldRate : ByteArray := prog_1_method_49_code
def yX9_heldRate : MethodName := ⟨RX9, "heldRate", "(I)I"⟩
abbrev cX9_lastChange : ByteArray := prog_1_method_50_code
def yX9_lastChange : MethodName := ⟨RX9, "lastChange", "(II)I"⟩
abbrev cX9_power : ByteArray := prog_1_method_51_code
def yX9_power : MethodName := ⟨RX9, "power", "(II)J"⟩
abbrev cX9_choices : ByteArray := prog_1_method_52_code
def yX9_choices : MethodName := ⟨RX9, "choices", "(II)J"⟩
def RX10 : String := "FavoursGoOffModel"
def TX10 : u_T := fun k => match k with
  | 0 => ("FavoursGoOffModel", "now", "[I", true)
  | 1 => ("FavoursGoOffModel", "stored", "[I", true)
  | 2 => ("FavoursGoOffModel", "isKept", "[Z", true)
  | 3 => ("FavoursGoOffModel", "refused", "[I", true)
  | 4 => ("FavoursGoOffModel", "above", "J", false)
  | 5 => ("FavoursGoOffModel", "below", "J", false)
  | 6 => ("FavoursGoOffModel", "row", "[I", true)
  | 7 => ("FavoursGoOffModel", "ringLong", "I", false)
  | 8 => ("FavoursGoOffModel", "netsOf", "[I", true)
  | 9 => ("FavoursGoOffModel", "mostSets", "[I", true)
  | 10 => ("FavoursGoOffModel", "choice", "[I", true)
  | 11 => ("FavoursGoOffModel", "bestChoice", "[I", true)
  | 12 => ("FavoursGoOffModel", "bestMet", "I", false)
  | 13 => ("FavoursGoOffModel", "bestValue", "I", false)
  | 14 => ("FavoursGoOffModel", "rates", "[I", true)
  | 15 => ("FavoursGoOffModel", "has", "[I", true)
  | 16 => ("FavoursGoOffModel", "bytes", "[I", true)
  | 17 => ("FavoursGoOffModel", "bytesLong", "I", false)
  | 18 => ("FavoursGoOffModel", "tokenAt", "I", false)
  | 19 => ("FavoursGoOffModel", "tokenLong", "I", false)
  | 20 => ("FavoursGoOffModel", "token", "I", false)
  | 21 => ("FavoursGoOffModel", "value", "I", false)
  | 22 => ("FavoursGoOffModel", "next", "[I", true)
  | _ => ("FavoursGoOffModel", "values", "[I", true)
def tyX10 : Nat → FieldType := fun k => match k with
  | 0 => .array .int
  | 1 => .array .int
  | 2 => .array .boolean
  | 3 => .array .int
  | 4 => .long
  | 5 => .long
  | 6 => .array .int
  | 7 => .int
  | 8 => .array .int
  | 9 => .array .int
  | 10 => .array .int
  | 11 => .array .int
  | 12 => .int
  | 13 => .int
  | 14 => .array .int
  | 15 => .array .int
  | 16 => .array .int
  | 17 => .int
  | 18 => .int
  | 19 => .int
  | 20 => .int
  | 21 => .int
  | 22 => .array .int
  | _ => .array .int
abbrev wsX100 : List Cond := u_ws RX10 TX10 24
theorem nmX10 : ∀ a, a < 24 → ∀ b, b < 24 → a ≠ b → (TX10 a).2.1 ≠ (TX10 b).2.1 := by decide +kernel
theorem tyX10_ok : ∀ k, k < 24 → parseFieldDescriptor (TX10 k).2.2.1 = some (tyX10 k) := by decide +kernel
abbrev cX10_init : ByteArray := prog_12_method_1_code
def yX10_init : MethodName := ⟨RX10, "<init>", "()V"⟩
abbrev cX10_in : ByteArray := prog_12_method_3_code
def yX10_in : MethodName := ⟨RX10, "in", "(JJJ)Z"⟩
abbrev cX10_bad : ByteArray := prog_12_method_4_code
def yX10_bad : MethodName := ⟨RX10, "bad", "(I)I"⟩
abbrev cX10_no : ByteArray := prog_12_method_5_code
def yX10_no : MethodName := ⟨RX10, "no", "(I)I"⟩
abbrev cX10_full : ByteArray := prog_12_method_6_code
def yX10_full : MethodName := ⟨RX10, "full", "()I"⟩
abbrev cX10_tells : ByteArray := prog_12_method_7_code
def yX10_tells : MethodName := ⟨RX10, "tells", "(JJ)I"⟩
abbrev cX10_begin : ByteArray := prog_12_method_8_code
def yX10_begin : MethodName := ⟨RX10, "begin", "([II)V"⟩
abbrev cX10_day : ByteArray := prog_12_method_9_code
def yX10_day : MethodName := ⟨RX10, "day", "()I"⟩
abbrev cX10_many : ByteArray := prog_12_method_10_code
def yX10_many : MethodName := ⟨RX10, "many", "()I"⟩
abbrev cX10_isOne : ByteArray := prog_12_method_11_code
def yX10_isOne : MethodName := ⟨RX10, "isOne", "(I)Z"⟩
abbrev cX10_isDay : ByteArray := prog_12_method_12_code
def yX10_isDay : MethodName := ⟨RX10, "isDay", "(I)Z"⟩
abbrev cX10_isThing : ByteArray := prog_12_method_13_code
def yX10_isThing : MethodName := ⟨RX10, "isThing", "(I)Z"⟩
abbrev cX10_isFavour : ByteArray := prog_12_method_14_code
def yX10_isFavour : MethodName := ⟨RX10, "isFavour", "(I)Z"⟩
abbrev cX10_told0 : ByteArray := prog_12_method_15_code
def yX10_told0 : MethodName := ⟨RX10, "told0", "(II)I"⟩
abbrev cX10_people : ByteArray := prog_12_method_16_code
def yX10_people : MethodName := ⟨RX10, "people", "(I)I"⟩
abbrev cX10_strong : ByteArray := prog_12_method_17_code
def yX10_strong : MethodName := ⟨RX10, "strong", "(II)I"⟩
abbrev cX10_layFavour : ByteArray := prog_12_method_18_code
def yX10_layFavour : MethodName := ⟨RX10, "layFavour", "([IIIIIIIII)V"⟩
abbrev cX10_favour : ByteArray := prog_12_method_19_code
def yX10_favour : MethodName := ⟨RX10, "favour", "(IIIIII)I"⟩
abbrev cX10_layNeed : ByteArray := prog_12_method_20_code
def yX10_layNeed : MethodName := ⟨RX10, "layNeed", "([IIIIII)V"⟩
abbrev cX10_need : ByteArray := prog_12_method_21_code
def yX10_need : MethodName := ⟨RX10, "need", "(IIII)I"⟩
abbrev cX10_contented : ByteArray := prog_12_method_22_code
def yX10_contented : MethodName := ⟨RX10, "contented", "()I"⟩
abbrev cX10_notBelow0 : ByteArray := prog_12_method_23_code
def yX10_notBelow0 : MethodName := ⟨RX10, "notBelow0", "(I)I"⟩
abbrev cX10_valueOf : ByteArray := prog_12_method_24_code
def yX10_valueOf : MethodName := ⟨RX10, "valueOf", "(II)I"⟩
abbrev cX10_valueNow : ByteArray := prog_12_method_25_code
def yX10_valueNow : MethodName := ⟨RX10, "valueNow", "(I)I"⟩
abbrev cX10_value : ByteArray := prog_12_method_26_code
def yX10_value : MethodName := ⟨RX10, "value", "(II)I"⟩
abbrev cX10_of : ByteArray := prog_12_method_27_code
def yX10_of : MethodName := ⟨RX10, "of", "(I)I"⟩
abbrev cX10_lose : ByteArray := prog_12_method_28_code
def yX10_lose : MethodName := ⟨RX10, "lose", "(I)V"⟩
abbrev cX10_pass : ByteArray := prog_12_method_29_code
def yX10_pass : MethodName := ⟨RX10, "pass", "(II)I"⟩
abbrev cX10_join : ByteArray := prog_12_method_30_code
def yX10_join : MethodName := ⟨RX10, "join", "(II)I"⟩
abbrev cX10_ask : ByteArray := prog_12_method_31_code
def yX10_ask : MethodName := ⟨RX10, "ask", "(I)I"⟩
abbrev cX10_night : ByteArray := prog_12_method_32_code
def yX10_night : MethodName := ⟨RX10, "night", "()I"⟩
abbrev cX10_undo : ByteArray := prog_12_method_33_code
def yX10_undo : MethodName := ⟨RX10, "undo", "()I"⟩
abbrev cX10_owesTo : ByteArray := prog_12_method_34_code
def yX10_owesTo : MethodName := ⟨RX10, "owesTo", "(II)I"⟩
abbrev cX10_owes : ByteArray := prog_12_method_35_code
def yX10_owes : MethodName := ⟨RX10, "owes", "(II)I"⟩
abbrev cX10_layRing : ByteArray := prog_12_method_36_code
def yX10_layRing : MethodName := ⟨RX10, "layRing", "(II)Z"⟩
abbrev cX10_findRing : ByteArray := prog_12_method_37_code
def yX10_findRing : MethodName := ⟨RX10, "findRing", "()V"⟩
abbrev cX10_ring : ByteArray := prog_12_method_38_code
def yX10_ring : MethodName := ⟨RX10, "ring", "(I)I"⟩
abbrev cX10_leastOf : ByteArray := prog_12_method_39_code
def yX10_leastOf : MethodName := ⟨RX10, "leastOf", "(II)I"⟩
abbrev cX10_cancel : ByteArray := prog_12_method_40_code
def yX10_cancel : MethodName := ⟨RX10, "cancel", "()I"⟩
abbrev cX10_netOf : ByteArray := prog_12_method_41_code
def yX10_netOf : MethodName := ⟨RX10, "netOf", "(I)I"⟩
abbrev cX10_net : ByteArray := prog_12_method_42_code
def yX10_net : MethodName := ⟨RX10, "net", "(I)I"⟩
abbrev cX10_fewest : ByteArray := prog_12_method_43_code
def yX10_fewest : MethodName := ⟨RX10, "fewest", "()I"⟩
abbrev cX10_need0 : ByteArray := prog_12_method_44_code
def yX10_need0 : MethodName := ⟨RX10, "need0", "(II)I"⟩
abbrev cX10_mayMeet : ByteArray := prog_12_method_45_code
def yX10_mayMeet : MethodName := ⟨RX10, "mayMeet", "(II)Z"⟩
abbrev cX10_fits : ByteArray := prog_12_method_46_code
def yX10_fits : MethodName := ⟨RX10, "fits", "(I)Z"⟩
abbrev cX10_look : ByteArray := prog_12_method_47_code
def yX10_look : MethodName := ⟨RX10, "look", "()V"⟩
abbrev cX10_findMet : ByteArray := prog_12_method_48_code
def yX10_findMet : MethodName := ⟨RX10, "findMet", "()V"⟩
abbrev cX10_met : ByteArray := prog_12_method_49_code
def yX10_met : MethodName := ⟨RX10, "met", "(I)I"⟩
abbrev cX10_plan : ByteArray := prog_12_method_50_code
def yX10_plan : MethodName := ⟨RX10, "plan", "(I)I"⟩
abbrev cX10_toDo : ByteArray := prog_12_method_51_code
def yX10_toDo : MethodName := ⟨RX10, "toDo", "(II)I"⟩
abbrev cX10_doneFor : ByteArray := prog_12_method_52_code
def yX10_doneFor : MethodName := ⟨RX10, "doneFor", "(III)I"⟩
abbrev cX10_fire : ByteArray := prog_12_method_53_code
def yX10_fire : MethodName := ⟨RX10, "fire", "(II)I"⟩
abbrev cX10_ratesBy : ByteArray := prog_12_method_54_code
def yX10_ratesBy : MethodName := ⟨RX10, "ratesBy", "(I)I"⟩
abbrev cX10_hold : ByteArray := prog_12_method_55_code
def yX10_hold : MethodName := ⟨RX10, "hold", "(I)I"⟩
abbrev cX10_rate : ByteArray := prog_12_method_56_code
def yX10_rate : MethodName := ⟨RX10, "rate", "(II)I"⟩
abbrev cX10_set : ByteArray := prog_12_method_57_code
def yX10_set : MethodName := ⟨RX10, "set", "(II)I"⟩
abbrev cX10_settles : ByteArray := prog_12_method_58_code
def yX10_settles : MethodName := ⟨RX10, "settles", "()I"⟩
abbrev cX10_told : ByteArray := prog_12_method_59_code
def yX10_told : MethodName := ⟨RX10, "told", "(III)I"⟩
abbrev cX10_forged : ByteArray := prog_12_method_60_code
def yX10_forged : MethodName := ⟨RX10, "forged", "()I"⟩
abbrev cX10_forget : ByteArray := prog_12_method_61_code
def yX10_forget : MethodName := ⟨RX10, "forget", "()I"⟩
abbrev cX10_goesOff : ByteArray := prog_12_method_62_code
def yX10_goesOff : MethodName := ⟨RX10, "goesOff", "(I)I"⟩
abbrev cX10_kept : ByteArray := prog_12_method_63_code
def yX10_kept : MethodName := ⟨RX10, "kept", "(II)I"⟩
abbrev cX10_type : ByteArray := prog_12_method_64_code
def yX10_type : MethodName := ⟨RX10, "type", "(JI)I"⟩
abbrev cX10_clear : ByteArray := prog_12_method_65_code
def yX10_clear : MethodName := ⟨RX10, "clear", "()I"⟩
abbrev cX10_isSmall : ByteArray := prog_12_method_66_code
def yX10_isSmall : MethodName := ⟨RX10, "isSmall", "(I)Z"⟩
abbrev cX10_isFigure : ByteArray := prog_12_method_67_code
def yX10_isFigure : MethodName := ⟨RX10, "isFigure", "(I)Z"⟩
abbrev cX10_lookAt : ByteArray := prog_12_method_68_code
def yX10_lookAt : MethodName := ⟨RX10, "lookAt", "(I)V"⟩
abbrev cX10_goOn : ByteArray := prog_12_method_69_code
def yX10_goOn : MethodName := ⟨RX10, "goOn", "()V"⟩
abbrev cX10_isWord : ByteArray := prog_12_method_70_code
def yX10_isWord : MethodName := ⟨RX10, "isWord", "(IIIIII)Z"⟩
abbrev cX10_takes : ByteArray := prog_12_method_71_code
def yX10_takes : MethodName := ⟨RX10, "takes", "(III)Z"⟩
abbrev cX10_readsStrong : ByteArray := prog_12_method_72_code
def yX10_readsStrong : MethodName := ⟨RX10, "readsStrong", "()Z"⟩
abbrev cX10_readsFavour : ByteArray := prog_12_method_73_code
def yX10_readsFavour : MethodName := ⟨RX10, "readsFavour", "()Z"⟩
abbrev cX10_readsNeed : ByteArray := prog_12_method_74_code
def yX10_readsNeed : MethodName := ⟨RX10, "readsNeed", "()Z"⟩
abbrev cX10_readsItem : ByteArray := prog_12_method_75_code
def yX10_readsItem : MethodName := ⟨RX10, "readsItem", "(Z)Z"⟩
abbrev cX10_read : ByteArray := prog_12_method_76_code
def yX10_read : MethodName := ⟨RX10, "read", "()I"⟩
abbrev cX10_part : ByteArray := prog_12_method_77_code
def yX10_part : MethodName := ⟨RX10, "part", "(I)J"⟩
abbrev cX10_image : ByteArray := prog_12_method_78_code
def yX10_image : MethodName := ⟨RX10, "image", "(I)I"⟩
abbrev cX10_from : ByteArray := prog_12_method_79_code
def yX10_from : MethodName := ⟨RX10, "from", "(I)I"⟩
abbrev cX10_status : ByteArray := prog_12_method_80_code
def yX10_status : MethodName := ⟨RX10, "status", "(I)I"⟩
abbrev cX10_counted : ByteArray := prog_12_method_81_code
def yX10_counted : MethodName := ⟨RX10, "counted", "(I)I"⟩
abbrev cX10_count : ByteArray := prog_12_method_82_code
def yX10_count : MethodName := ⟨RX10, "count", "(I)I"⟩
abbrev cX10_sums : ByteArray := prog_12_method_83_code
def yX10_sums : MethodName := ⟨RX10, "sums", "(JII)J"⟩
abbrev cX10_digest : ByteArray := prog_12_method_84_code
def yX10_digest : MethodName := ⟨RX10, "digest", "()J"⟩
def RJ9 : String := "java/lang/Math"
def TJ9 : u_T := fun k => match k with
  | _ => ("", "", "", false)
def tyJ9 : Nat → FieldType := fun k => match k with
  | _ => .int
abbrev wsJ90 : List Cond := u_ws RJ9 TJ9 0
theorem nmJ9 : ∀ a, a < 0 → ∀ b, b < 0 → a ≠ b → (TJ9 a).2.1 ≠ (TJ9 b).2.1 := by decide +kernel
theorem tyJ9_ok : ∀ k, k < 0 → parseFieldDescriptor (TJ9 k).2.2.1 = some (tyJ9 k) := by decide +kernel
abbrev cJ9_max_7cf53 : ByteArray := prog_13_method_65_code
def yJ9_max_7cf53 : MethodName := ⟨RJ9, "max", "(II)I"⟩
abbrev cJ9_min_7cf53 : ByteArray := prog_13_method_69_code
def yJ9_min_7cf53 : MethodName := ⟨RJ9, "min", "(II)I"⟩
def RJ0 : String := "java/lang/String"
def TJ0 : u_T := fun k => match k with
  | _ => ("", "", "", false)
def tyJ0 : Nat → FieldType := fun k => match k with
  | _ => .int
abbrev wsJ00 : List Cond := u_ws RJ0 TJ0 0
theorem nmJ0 : ∀ a, a < 0 → ∀ b, b < 0 → a ≠ b → (TJ0 a).2.1 ≠ (TJ0 b).2.1 := by decide +kernel
theorem tyJ0_ok : ∀ k, k < 0 → parseFieldDescriptor (TJ0 k).2.2.1 = some (tyJ0 k) := by decide +kernel
abbrev cJ0_length_8abf5 : ByteArray := prog_14_method_54_code
def yJ0_length_8abf5 : MethodName := ⟨RJ0, "length", "()I"⟩
abbrev cJ0_charAt_5068e : ByteArray := prog_14_method_56_code
def yJ0_charAt_5068e : MethodName := ⟨RJ0, "charAt", "(I)C"⟩
abbrev cJ0_coder_7d493 : ByteArray := prog_14_method_152_code
def yJ0_coder_7d493 : MethodName := ⟨RJ0, "coder", "()B"⟩
abbrev cJ0_isLatin1_aae02 : ByteArray := prog_14_method_154_code
def yJ0_isLatin1_aae02 : MethodName := ⟨RJ0, "isLatin1", "()Z"⟩
abbrev cJ0_checkIndex_df160 : ByteArray := prog_14_method_155_code
def yJ0_checkIndex_df160 : MethodName := ⟨RJ0, "checkIndex", "(II)V"⟩
def RJ1 : String := "java/lang/StringLatin1"
def TJ1 : u_T := fun k => match k with
  | _ => ("", "", "", false)
def tyJ1 : Nat → FieldType := fun k => match k with
  | _ => .int
abbrev wsJ10 : List Cond := u_ws RJ1 TJ1 0
theorem nmJ1 : ∀ a, a < 0 → ∀ b, b < 0 → a ≠ b → (TJ1 a).2.1 ≠ (TJ1 b).2.1 := by decide +kernel
theorem tyJ1_ok : ∀ k, k < 0 → parseFieldDescriptor (TJ1 k).2.2.1 = some (tyJ1 k) := by decide +kernel
abbrev cJ1_charAt_3b067 : ByteArray := prog_15_method_2_code
def yJ1_charAt_3b067 : MethodName := ⟨RJ1, "charAt", "([BI)C"⟩
def RJ2 : String := "java/lang/StringUTF16"
def TJ2 : u_T := fun k => match k with
  | _ => ("", "", "", false)
def tyJ2 : Nat → FieldType := fun k => match k with
  | _ => .int
abbrev wsJ20 : List Cond := u_ws RJ2 TJ2 0
theorem nmJ2 : ∀ a, a < 0 → ∀ b, b < 0 → a ≠ b → (TJ2 a).2.1 ≠ (TJ2 b).2.1 := by decide +kernel
theorem tyJ2_ok : ∀ k, k < 0 → parseFieldDescriptor (TJ2 k).2.2.1 = some (tyJ2 k) := by decide +kernel
abbrev cJ2_getChar_3b067 : ByteArray := prog_16_method_5_code
def yJ2_getChar_3b067 : MethodName := ⟨RJ2, "getChar", "([BI)C"⟩
abbrev cJ2_length_9d52b : ByteArray := prog_16_method_6_code
def yJ2_length_9d52b : MethodName := ⟨RJ2, "length", "([B)I"⟩
abbrev cJ2_charAt_3b067 : ByteArray := prog_16_method_83_code
def yJ2_charAt_3b067 : MethodName := ⟨RJ2, "charAt", "([BI)C"⟩
abbrev cJ2_checkIndex_2214a : ByteArray := prog_16_method_91_code
def yJ2_checkIndex_2214a : MethodName := ⟨RJ2, "checkIndex", "(I[B)V"⟩
def RJ10 : String := "java/lang/System"
def TJ10 : u_T := fun k => match k with
  | _ => ("", "", "", false)
def tyJ10 : Nat → FieldType := fun k => match k with
  | _ => .int
abbrev wsJ100 : List Cond := u_ws RJ10 TJ10 0
theorem nmJ10 : ∀ a, a < 0 → ∀ b, b < 0 → a ≠ b → (TJ10 a).2.1 ≠ (TJ10 b).2.1 := by decide +kernel
theorem tyJ10_ok : ∀ k, k < 0 → parseFieldDescriptor (TJ10 k).2.2.1 = some (tyJ10 k) := by decide +kernel
def RJ3 : String := "jdk/internal/util/Preconditions"
def TJ3 : u_T := fun k => match k with
  | _ => ("", "", "", false)
def tyJ3 : Nat → FieldType := fun k => match k with
  | _ => .int
abbrev wsJ30 : List Cond := u_ws RJ3 TJ3 0
theorem nmJ3 : ∀ a, a < 0 → ∀ b, b < 0 → a ≠ b → (TJ3 a).2.1 ≠ (TJ3 b).2.1 := by decide +kernel
theorem tyJ3_ok : ∀ k, k < 0 → parseFieldDescriptor (TJ3 k).2.2.1 = some (tyJ3 k) := by decide +kernel
abbrev cJ3_checkIndex_8e157 : ByteArray := prog_18_method_11_code
def yJ3_checkIndex_8e157 : MethodName := ⟨RJ3, "checkIndex", "(IILjava/util/function/BiFunction;)I"⟩
def RL : String := "FavoursGoOffLaw"
abbrev cL_law : ByteArray := code
def yL_law : MethodName := ⟨RL, "law", "([I)Z"⟩

abbrev vwCl : List vw_C := [(RX0, TX0, 2), (RX1, TX1, 6), (RX2, TX2, 2), (RX3, TX3, 5), (RX4, TX4, 13), (RX5, TX5, 8), (RX6, TX6, 6), (RX7, TX7, 3), (RX8, TX8, 2), (RX9, TX9, 13), (RX10, TX10, 24)]
/-- the tables' words that any call may hand on -/
def TB : List Cond := lw_tbl.filter goodWord
theorem tb_good : ∀ w ∈ TB, goodWord w = true := fun _ h => (List.mem_filter.mp h).2
theorem tb_sub : ∀ w ∈ TB, w ∈ lw_tbl := fun _ h => (List.mem_filter.mp h).1
theorem tb_t {w : Cond} (i : Nat) (h : tables_1[i]? = some w) (hg : goodWord w = true) : w ∈ TB := List.mem_filter.mpr ⟨List.mem_append_right _ (List.mem_of_getElem? h), hg⟩
theorem tb_s {w : Cond} (i : Nat) (h : (k2_sels lw_privs)[i]? = some w) (hg : goodWord w = true) : w ∈ TB := List.mem_filter.mpr ⟨List.mem_append_left _ (List.mem_of_getElem? h), hg⟩
end
section
/-! ===== a picture of the heap as numbers; the judgement gV over it; a rule an instruction ===== -/
/-- launch, first address, slots of the classes' fields, the class of int[] and of boolean[], where the String constants lie, and their bytes -/
abbrev EE : Type := Launch × Nat × va_G × (ClassId × ClassId) × (Nat → Nat) × (Nat → Nat)
/-- how many cells; the kind of each; its int, long, reference fields; an array's length and contents -/
abbrev Hp : Type := Nat × (Nat → Nat) × (Nat → Nat → Int32) × (Nat → Nat → Int64) × (Nat → Nat → Option Nat) × (Nat → Nat) × (Nat → Nat → Int32)
def h_n (G : Hp) : Nat := G.1
def h_k (G : Hp) : Nat → Nat := G.2.1
def h_i (G : Hp) : Nat → Nat → Int32 := G.2.2.1
def h_l (G : Hp) : Nat → Nat → Int64 := G.2.2.2.1
def h_r (G : Hp) : Nat → Nat → Option Nat := G.2.2.2.2.1
def h_z (G : Hp) : Nat → Nat := G.2.2.2.2.2.1
def h_a (G : Hp) : Nat → Nat → Int32 := G.2.2.2.2.2.2
def up2 {α : Type} (f : Nat → Nat → α) (a k : Nat) (v : α) : Nat → Nat → α := fun a' k' => if a' = a ∧ k' = k then v else f a' k'
def s_i (G : Hp) (a k : Nat) (v : Int32) : Hp := (G.1, G.2.1, up2 G.2.2.1 a k v, G.2.2.2)
def s_l (G : Hp) (a k : Nat) (v : Int64) : Hp := (G.1, G.2.1, G.2.2.1, up2 G.2.2.2.1 a k v, G.2.2.2.2)
def s_r (G : Hp) (a k : Nat) (v : Option Nat) : Hp := (G.1, G.2.1, G.2.2.1, G.2.2.2.1, up2 G.2.2.2.2.1 a k v, G.2.2.2.2.2)
def s_a (G : Hp) (a : Nat) (f : Nat → Int32) : Hp := (G.1, G.2.1, G.2.2.1, G.2.2.2.1, G.2.2.2.2.1, G.2.2.2.2.2.1, va_up G.2.2.2.2.2.2 a f)
def s_e (G : Hp) (a i : Nat) (v : Int32) : Hp := s_a G a (upd (h_a G a) i v)
def s_new (G : Hp) (ci : Nat) : Hp := (G.1 + 1, va_up G.2.1 G.1 ci, va_up G.2.2.1 G.1 (fun _ => 0), va_up G.2.2.2.1 G.1 (fun _ => 0), va_up G.2.2.2.2.1 G.1 (fun _ => none), G.2.2.2.2.2)
def s_arr (G : Hp) (kc n : Nat) : Hp := (G.1 + 1, va_up G.2.1 G.1 kc, G.2.2.1, G.2.2.2.1, G.2.2.2.2.1, va_up G.2.2.2.2.2.1 G.1 n, va_up G.2.2.2.2.2.2 G.1 (fun _ => 0))
/-- the fields of each kind: 0 int or boolean, 1 long, 2 reference -/
def fty : Nat → List Nat := fun c => match c with
  | 0 => [2, 0]
  | 1 => [2, 2, 2, 0, 0, 0]
  | 2 => [1, 1]
  | 3 => [2, 2, 2, 0, 0]
  | 4 => [0, 0, 0, 0, 0, 2, 2, 2, 2, 2, 2, 2, 2]
  | 5 => [2, 2, 0, 0, 0, 0, 0, 0]
  | 6 => [2, 2, 2, 2, 2, 0]
  | 7 => [0, 2, 0]
  | 8 => [2, 0]
  | 9 => [2, 2, 2, 2, 2, 2, 2, 2, 2, 2, 0, 0, 0]
  | 10 => [2, 2, 2, 2, 1, 1, 2, 0, 2, 2, 2, 2, 0, 0, 2, 2, 2, 0, 0, 0, 0, 0, 2, 2]
  | _ => []
def f_v (b : Nat) (G : Hp) (a t k : Nat) : Value := if t = 0 then .int (h_i G a k) else if t = 1 then .long (h_l G a k) else va_rf ((h_r G a k).map (fun q => b + q))
def f_go (g : Nat → Nat → Value) : List Nat → Nat → List Value
  | [], _ => []
  | t :: l, k => g t k :: f_go g l (k + 1)
theorem f_go_get (g : Nat → Nat → Value) : ∀ (l : List Nat) (k j : Nat), (f_go g l k)[j]? = l[j]?.map (fun t => g t (k + j))
  | [], k, j => by simp [f_go]
  | t :: l, k, 0 => by simp [f_go]
  | t :: l, k, j + 1 => by
    simp only [f_go, List.getElem?_cons_succ]
    rw [f_go_get g l (k + 1) j, show k + 1 + j = k + (j + 1) by omega]
theorem f_go_len (g : Nat → Nat → Value) : ∀ (l : List Nat) (k : Nat), (f_go g l k).length = l.length
  | [], k => rfl
  | t :: l, k => by simp [f_go, f_go_len g l (k + 1)]
theorem f_go_set {g g' : Nat → Nat → Value} {l : List Nat} {q t : Nat} (ht : l[q]? = some t) (ho : ∀ t' j, j ≠ q → g' t' j = g t' j) : (f_go g l 0).set q (g' t q) = f_go g' l 0 := by
  have hq : q < l.length := (List.getElem?_eq_some_iff.mp ht).1
  apply List.ext_getElem?
  intro j
  rw [List.getElem?_set, f_go_get, f_go_get, f_go_len]
  by_cases h : q = j
  · subst h
    rw [if_pos rfl, if_pos hq, ht]
    simp
  · rw [if_neg h]
    cases hj : l[j]? with
    | none => rfl
    | some t' => simp [ho t' j (Ne.symm h)]
theorem f_go_congr {g g' : Nat → Nat → Value} {l : List Nat} (ho : ∀ t' j, g' t' j = g t' j) : f_go g' l 0 = f_go g l 0 := by
  have : g' = g := by funext t j; exact ho t j
  rw [this]
def g_ent (E : EE) (G : Hp) (a : Nat) : va_E := if h_k G a = 11 then .inl (E.2.2.2.1.1, h_z G a, .inl (h_a G a)) else if h_k G a = 12 then .inl (E.2.2.2.1.2, h_z G a, .inl (h_a G a)) else .inr (h_k G a, f_go (f_v E.2.1 G a) (fty (h_k G a)) 0)
theorem ent_o {E : EE} {G : Hp} {a ci : Nat} (h : h_k G a = ci) (hc : ci < 11) : g_ent E G a = .inr (ci, f_go (f_v E.2.1 G a) (fty ci) 0) := by
  subst h
  unfold g_ent
  rw [if_neg (by omega), if_neg (by omega)]
theorem ent_i {E : EE} {G : Hp} {a : Nat} (h : h_k G a = 11) : g_ent E G a = .inl (E.2.2.2.1.1, h_z G a, .inl (h_a G a)) := by
  unfold g_ent
  rw [if_pos h]
theorem ent_z {E : EE} {G : Hp} {a : Nat} (h : h_k G a = 12) : g_ent E G a = .inl (E.2.2.2.1.2, h_z G a, .inl (h_a G a)) := by
  unfold g_ent
  rw [if_neg (by omega), if_pos h]
def g_wl (E : EE) (G : Hp) : va_W := (List.range (h_n G)).map (fun a => (E.2.1 + a, g_ent E G a))
theorem wl_get {E : EE} {G : Hp} {a : Nat} (h : a < h_n G) : (g_wl E G)[a]? = some (E.2.1 + a, g_ent E G a) := by
  simp [g_wl, h]
theorem wl_of {E : EE} {G : Hp} {i : Nat} {q : Nat × va_E} (h : (g_wl E G)[i]? = some q) : i < h_n G ∧ q = (E.2.1 + i, g_ent E G i) := by
  have h1 : i < (g_wl E G).length := (List.getElem?_eq_some_iff.mp h).1
  have h2 : i < h_n G := by simpa [g_wl] using h1
  rw [wl_get h2] at h
  exact ⟨h2, (Option.some.inj h).symm⟩
theorem wl_D (E : EE) (G : Hp) : va_D (fun q => E.2.1 ≤ q) (g_wl E G) := by
  refine ⟨fun i j p q hi hj he => ?_, fun k q hk => ?_⟩
  · obtain ⟨-, rfl⟩ := wl_of hi
    obtain ⟨-, rfl⟩ := wl_of hj
    dsimp only at he
    omega
  · obtain ⟨-, rfl⟩ := wl_of hk
    show E.2.1 ≤ E.2.1 + k
    omega
theorem wl_set {E : EE} {G G' : Hp} {a : Nat} {e : va_E} (h : a < h_n G) (hn : h_n G' = h_n G) (he : g_ent E G' a = e) (ho : ∀ q, q ≠ a → g_ent E G' q = g_ent E G q) : (g_wl E G).set a (E.2.1 + a, e) = g_wl E G' := by
  apply List.ext_getElem?
  intro j
  have hl : (g_wl E G).length = h_n G := by simp [g_wl]
  rw [List.getElem?_set, hl]
  by_cases hj : a = j
  · subst hj
    rw [if_pos rfl, if_pos h, wl_get (by rw [hn]; exact h), he]
  · rw [if_neg hj]
    by_cases hjn : j < h_n G
    · rw [wl_get hjn, wl_get (by rw [hn]; exact hjn), ho j (Ne.symm hj)]
    · rw [List.getElem?_eq_none (by rw [hl]; omega), List.getElem?_eq_none (by simp [g_wl, hn]; omega)]
theorem wl_push {E : EE} {G G' : Hp} {e : va_E} (hn : h_n G' = h_n G + 1) (he : g_ent E G' (h_n G) = e) (ho : ∀ q, q < h_n G → g_ent E G' q = g_ent E G q) : g_wl E G ++ [(E.2.1 + h_n G, e)] = g_wl E G' := by
  unfold g_wl
  rw [hn, List.range_succ, List.map_append, ← he]
  congr 1
  apply List.map_congr_left
  intro q hq
  rw [ho q (List.mem_range.mp hq)]
def gWd (E : EE) (G : Hp) (H : Heap) : Prop := va_P E.2.2.1 vwCl (g_wl E G) H ∧ H.size = E.2.1 + h_n G
/-- the links of members of nest mates -/
abbrev nwL : List (String × Nat × MethodName × String) := [("FavoursGoOff", 9, ⟨"FavoursGoOff$History", "<init>", "()V"⟩, "FavoursGoOff"), ("FavoursGoOff", 31, ⟨"FavoursGoOff$Reader", "<init>", "()V"⟩, "FavoursGoOff"), ("FavoursGoOff$Reader", 11, ⟨"FavoursGoOff$Text", "<init>", "()V"⟩, "FavoursGoOff"), ("FavoursGoOff", 43, ⟨"FavoursGoOff$Debts", "<init>", "()V"⟩, "FavoursGoOff"), ("FavoursGoOff", 50, ⟨"FavoursGoOff$Circle", "<init>", "()V"⟩, "FavoursGoOff"), ("FavoursGoOff", 57, ⟨"FavoursGoOff$Plan", "<init>", "()V"⟩, "FavoursGoOff"), ("FavoursGoOff", 64, ⟨"FavoursGoOff$Fraction", "<init>", "()V"⟩, "FavoursGoOff"), ("FavoursGoOff$Reader", 125, ⟨"FavoursGoOff", "isWithin", "(III)Z"⟩, "FavoursGoOff")]
def g_nw (U : State) : Prop := ∀ q ∈ nwL, va_Nw (.methodLinkNest q.1 q.2.1 q.2.2.1 q.2.2.2) U
def g_six : List (Nat × String) := [(44, "people"), (67, "strong"), (72, "favour"), (87, "need")]
abbrev g_len : List Nat := [6, 6, 6, 4]
abbrev g_byt : List (List Int32) := [[112, 101, 111, 112, 108, 101], [115, 116, 114, 111, 110, 103], [102, 97, 118, 111, 117, 114], [110, 101, 101, 100]]
/-- what is known of the String constants -/
def g_st (E : EE) (U : State) : Prop := (∀ i q, g_six[i]? = some q → vk_R "FavoursGoOff$Reader" q.1 q.2 (E.2.2.2.2.1 i) U) ∧ vk_S 4 g_len g_byt E.2.2.2.2.1 E.2.2.2.2.2 (fun q => E.2.1 ≤ q) U U.heap ∧ va_Z "java/lang/String" "COMPACT_STRINGS" "Z" (.int 1) (fun q => E.2.1 ≤ q) U U.heap
def g_K (E : EE) (U : State) : Prop := va_K E.2.2.1 vwCl [(E.2.2.2.1.1, .int), (E.2.2.2.1.2, .boolean)] U
def gKn (E : EE) (U : State) : Prop := g_K E U ∧ g_nw U ∧ g_st E U ∧ E.2.1 ≤ U.heap.size
theorem gKn.same {E : EE} {u U : State} (hv : U.vm = u.vm) (hh : U.heap = u.heap) (h : gKn E u) : gKn E U := by
  have hal : u.vm.Alike U.vm := by rw [hv]; exact Vm.Alike.refl _
  obtain ⟨h1, h2, ⟨h3, h4, h5⟩, h6⟩ := h
  refine ⟨va_K.moved hal h1, fun q hq => va_Nw.same rfl hv.symm (h2 q hq), ⟨fun i q hq => vk_R.same hv (h3 i q hq), ?_, ?_⟩, by rw [hh]; exact h6⟩
  · rw [hh]
    exact vk_S.moved hal h4
  · rw [hh]
    exact va_Z.moved hal h5
theorem gKn.warm {E : EE} {s U : State} {H : Heap} {locs : List Loc} (hS : va_S (fun q => E.2.1 ≤ q) s.heap H locs) (hU : U.heap = H) (hW : s.WarmedH U.vm) (h : gKn E s) : gKn E U := by
  obtain ⟨h1, h2, ⟨h3, h4, h5⟩, h6⟩ := h
  refine ⟨va_K.moved hW.alike h1, fun q hq => va_Nw.warmM hW (h2 q hq), ⟨fun i q hq => vk_R.warm hW (h3 i q hq), ?_, ?_⟩, by rw [hU]; exact Nat.le_trans h6 hS.1⟩
  · rw [hU]
    exact vk_S.moved hW.alike (h4.kept (fun a ha hn => hS.2.1 a ha hn))
  · rw [hU]
    exact va_Z.moved hW.alike (h5.kept hS.2.1)

/-! ===== locals by their places ===== -/
def lvp (ls : Array Slot) (nL : Nat) (lv : List (Option Value)) : Prop := ls.size = nL ∧ lv_wf ls ∧ ∀ (i : Nat) (v : Value), lv[i]? = some (some v) → ls[i]? = some (.val v)
def lvl (lv : List (Option Value)) : List (Nat × Value) := (List.range lv.length).filterMap (fun i => match lv[i]? with
  | some (some v) => some (i, v)
  | _ => none)
theorem lvl_mem {lv : List (Option Value)} {q : Nat × Value} : q ∈ lvl lv ↔ lv[q.1]? = some (some q.2) := by
  unfold lvl
  rw [List.mem_filterMap]
  constructor
  · rintro ⟨i, hi, h⟩
    split at h
    · next v hv => cases h; exact hv
    · cases h
  · intro h
    refine ⟨q.1, List.mem_range.mpr (List.getElem?_eq_some_iff.mp h).1, ?_⟩
    rw [h]
theorem lvp.has {ls : Array Slot} {nL : Nat} {lv : List (Option Value)} (h : lvp ls nL lv) : lv_has ls nL (lvl lv) := ⟨h.1, h.2.1, fun q hq => h.2.2 q.1 q.2 (lvl_mem.mp hq)⟩
def isW (o : Option Value) : Bool := match o with
  | some (.long _) => true
  | some (.double _) => true
  | _ => false
theorem isW_of {v : Value} : isW (some v) = true ↔ v.category = 2 := by cases v <;> simp [isW, Value.category]
/-- a value of one slot is stored -/
def stv : List (Option Value) → Nat → Value → List (Option Value)
  | [], _, _ => []
  | _ :: l, 0, v => some v :: l
  | o :: l, i + 1, v => (if i = 0 ∧ isW o = true then none else o) :: stv l i v
theorem stv_get : ∀ (l : List (Option Value)) (i : Nat) (v : Value) (j : Nat) (w : Value), (stv l i v)[j]? = some (some w) → (j = i ∧ w = v) ∨ (l[j]? = some (some w) ∧ j ≠ i ∧ ¬ (j + 1 = i ∧ w.category = 2))
  | [], i, v, j, w, h => by simp [stv] at h
  | o :: l, 0, v, 0, w, h => by
    simp only [stv, List.getElem?_cons_zero, Option.some.injEq] at h
    exact Or.inl ⟨rfl, h.symm⟩
  | o :: l, 0, v, j + 1, w, h => by
    simp only [stv, List.getElem?_cons_succ] at h
    exact Or.inr ⟨by simpa using h, by omega, by omega⟩
  | o :: l, i + 1, v, 0, w, h => by
    simp only [stv, List.getElem?_cons_zero, Option.some.injEq] at h
    split at h
    · cases h
    · next hn =>
      subst h
      refine Or.inr ⟨rfl, by omega, fun hc => hn ⟨by omega, isW_of.mpr hc.2⟩⟩
  | o :: l, i + 1, v, j + 1, w, h => by
    simp only [stv, List.getElem?_cons_succ] at h
    rcases stv_get l i v j w h with ⟨h1, h2⟩ | ⟨h1, h2, h3⟩
    · exact Or.inl ⟨by omega, h2⟩
    · exact Or.inr ⟨by simpa using h1, by omega, fun hc => h3 ⟨by omega, hc.2⟩⟩
/-- the second half of a long behind its first -/
def clr : List (Option Value) → Nat → List (Option Value)
  | [], _ => []
  | _ :: l, 0 => none :: l
  | o :: l, i + 1 => o :: clr l i
theorem clr_get : ∀ (l : List (Option Value)) (i j : Nat) (w : Value), (clr l i)[j]? = some (some w) → l[j]? = some (some w) ∧ j ≠ i
  | [], i, j, w, h => by simp [clr] at h
  | o :: l, 0, 0, w, h => by simp [clr] at h
  | o :: l, 0, j + 1, w, h => by
    simp only [clr, List.getElem?_cons_succ] at h
    exact ⟨by simpa using h, by omega⟩
  | o :: l, i + 1, 0, w, h => by
    simp only [clr, List.getElem?_cons_zero] at h
    exact ⟨by simpa using h, by omega⟩
  | o :: l, i + 1, j + 1, w, h => by
    simp only [clr, List.getElem?_cons_succ] at h
    obtain ⟨h1, h2⟩ := clr_get l i j w h
    exact ⟨by simpa using h1, by omega⟩
theorem lvp.sub {ls : Array Slot} {nL : Nat} {lv lv' : List (Option Value)} (h : lvp ls nL lv) (hs : ∀ (i : Nat) (v : Value), lv'[i]? = some (some v) → lv[i]? = some (some v)) : lvp ls nL lv' := ⟨h.1, h.2.1, fun i v hv => h.2.2 i v (hs i v hv)⟩
/-- every place that is listed in the second list is so in the first: checked by running -/
def lvs : List (Option Value) → List (Option Value) → Prop
  | _, [] => True
  | l, none :: l' => lvs l.tail l'
  | l, some v :: l' => l.head? = some (some v) ∧ lvs l.tail l'
theorem lvs_get : ∀ (l l' : List (Option Value)), lvs l l' → ∀ (i : Nat) (v : Value), l'[i]? = some (some v) → l[i]? = some (some v)
  | l, [], _, i, v, h => by simp at h
  | l, none :: l', h, 0, v, hv => by simp at hv
  | l, some w :: l', h, 0, v, hv => by
    simp only [List.getElem?_cons_zero, Option.some.injEq] at hv
    subst hv
    have h1 := h.1
    cases l with
    | nil => simp at h1
    | cons a t => simpa using h1
  | l, none :: l', h, i + 1, v, hv => by
    have h2 := lvs_get l.tail l' h i v (by simpa using hv)
    cases l with
    | nil => simp at h2
    | cons a t => simpa using h2
  | l, some w :: l', h, i + 1, v, hv => by
    have h2 := lvs_get l.tail l' h.2 i v (by simpa using hv)
    cases l with
    | nil => simp at h2
    | cons a t => simpa using h2
/-! ===== the judgement ===== -/
/-- program, environment, room, start, method, arguments, what is below, method, code, goal, locals -/
abbrev CT : Type := Program × Env × Room × State × MethodId × Array Value × List Frame × Method × Code × (State → Prop) × Nat
def gV (E : EE) (X : CT) (k n : Nat) (G : Hp) (pc : Nat) (lv : List (Option Value)) (st : List Value) : Prop := match X with
  | (p, e, R, s, m, args, below, meth, c, Q, nL) => ∀ (H : Heap) (locs : List Loc) (ls : Array Slot), gWd E G H → va_S (fun q => E.2.1 ≤ q) s.heap H locs → lvp ls nL lv → W p E.1 e R s m args below meth c H locs k n Q (F0 m pc ls st)
/-- what holds all along a method: its code, class, answer's type; frames, words, cells, slots that may be used; whether it is a constructor -/
def gCx (E : EE) (X : CT) (cc : ByteArray) (own : String) (ret : Option FieldType) (F L Mc Ms : Nat) (ini : Bool) (mL : Nat) : Prop := match X with
  | (p, _e, R, s, m, args, _below, meth, c, _Q, nL) => p.tables.exec = Jvm.exec ∧ c.code = cc ∧ (c.maxLocals = nL ∧ nL = mL) ∧ s.vm.findClass own = some m.cls ∧ (∀ w ∈ TB, w.before args s = true) ∧ gKn E s ∧ (F ≤ R.frames ∧ L ≤ R.locals ∧ Mc ≤ R.cells ∧ Ms ≤ R.slots) ∧ meth.locks = false ∧ meth.sig.returnType = ret ∧ (ini = true → meth.name = "<init>")
/-- the way out, with an answer and a heap -/
def gRet (E : EE) (X : CT) (cc : ByteArray) (ret : Option FieldType) (k n : Nat) (rv : Option Value) (G : Hp) : Prop := ∀ (pc : Nat) (lv : List (Option Value)), (match rv with
  | none => decode cc pc = .ok (.return_, 1) ∧ ret = none
  | some (.int v) => decode cc pc = .ok (.ireturn, 1) ∧ ∃ ty, ret = some ty ∧ narrow ty (.int v) = .int v
  | some (.long _) => decode cc pc = .ok (.lreturn, 1) ∧ ret = some .long
  | some (.ref _) => decode cc pc = .ok (.areturn, 1) ∧ ∃ t, ret = some (.object t)
  | _ => False) → gV E X k n G pc lv rv.toList
end
section
/-! ===== a rule an instruction ===== -/
section GR
variable {E : EE} {X : CT} {cc : ByteArray} {own : String} {ret : Option FieldType} {F L Mc Ms : Nat} {ini : Bool} {mL : Nat} {q n : Nat} {G : Hp} {pc : Nat} {lv : List (Option Value)} {st : List Value}
theorem g_iconst (C : gCx E X cc own ret F L Mc Ms ini mL) {z : Int} {v : Int32} (hd : decode cc pc = .ok (.iconst z, 1)) (hv : Int32.ofInt z = v) (k : gV E X q n G (pc + 1) lv (.int v :: st)) : gV E X q n G pc lv (st) := by
  obtain ⟨p, e, R, s, m, args, below, meth, c, Q, nL⟩ := X
  intro H locs ls hW hS hl
  exact lv_iconst C.1 C.2.1 hd hv (k H locs ls hW hS hl)
theorem g_bipush (C : gCx E X cc own ret F L Mc Ms ini mL) {z : Int} {v : Int32} (hd : decode cc pc = .ok (.bipush z, 2)) (hv : (Int8.ofInt z).toInt32 = v) (k : gV E X q n G (pc + 2) lv (.int v :: st)) : gV E X q n G pc lv (st) := by
  obtain ⟨p, e, R, s, m, args, below, meth, c, Q, nL⟩ := X
  intro H locs ls hW hS hl
  exact lv_bipush C.1 C.2.1 hd hv (k H locs ls hW hS hl)
theorem g_sipush (C : gCx E X cc own ret F L Mc Ms ini mL) {z : Int} {v : Int32} (hd : decode cc pc = .ok (.sipush z, 3)) (hv : (Int16.ofInt z).toInt32 = v) (k : gV E X q n G (pc + 3) lv (.int v :: st)) : gV E X q n G pc lv (st) := by
  obtain ⟨p, e, R, s, m, args, below, meth, c, Q, nL⟩ := X
  intro H locs ls hW hS hl
  exact lv_sipush C.1 C.2.1 hd hv (k H locs ls hW hS hl)
theorem g_lconst (C : gCx E X cc own ret F L Mc Ms ini mL) {z : Fin 2} {v : Int64} (hd : decode cc pc = .ok (.lconst z, 1)) (hv : Int64.ofNat (z : Nat) = v) (k : gV E X q n G (pc + 1) lv (.long v :: st)) : gV E X q n G pc lv (st) := by
  obtain ⟨p, e, R, s, m, args, below, meth, c, Q, nL⟩ := X
  intro H locs ls hW hS hl
  exact lv_lconst C.1 C.2.1 hd hv (k H locs ls hW hS hl)
theorem g_ldc2 (C : gCx E X cc own ret F L Mc Ms ini mL) {idx : Nat} {v : Int64} (hd : decode cc pc = .ok (.ldc2_w idx, 3)) (hc : Cond.constantLong own idx v ∈ TB) (k : gV E X q n G (pc + 3) lv (.long v :: st)) : gV E X q n G pc lv st := by
  obtain ⟨p, e, R, s, m, args, below, meth, c, Q, nL⟩ := X
  intro H locs ls hW hS hl
  exact lv_ldc2 C.1 C.2.1 C.2.2.2.1 (C.2.2.2.2.1 _ hc) hd (k H locs ls hW hS hl)
theorem g_iload_n (C : gCx E X cc own ret F L Mc Ms ini mL) {z : Fin 4} {x : Int32} (hd : decode cc pc = .ok (.iload_n z, 1)) (h : lv[(z : Nat)]? = some (some (.int x))) (k : gV E X q n G (pc + 1) lv (.int x :: st)) : gV E X q n G pc lv st := by
  obtain ⟨p, e, R, s, m, args, below, meth, c, Q, nL⟩ := X
  intro H locs ls hW hS hl
  exact lv_iload_n C.1 C.2.1 hd rfl (hl.2.2 _ _ h) (k H locs ls hW hS hl)
theorem g_iload (C : gCx E X cc own ret F L Mc Ms ini mL) {i : Nat} {x : Int32} (hd : decode cc pc = .ok (.iload i, 2)) (h : lv[i]? = some (some (.int x))) (k : gV E X q n G (pc + 2) lv (.int x :: st)) : gV E X q n G pc lv st := by
  obtain ⟨p, e, R, s, m, args, below, meth, c, Q, nL⟩ := X
  intro H locs ls hW hS hl
  exact lv_iload C.1 C.2.1 hd (hl.2.2 _ _ h) (k H locs ls hW hS hl)
theorem g_lload_n (C : gCx E X cc own ret F L Mc Ms ini mL) {z : Fin 4} {x : Int64} (hd : decode cc pc = .ok (.lload_n z, 1)) (h : lv[(z : Nat)]? = some (some (.long x))) (k : gV E X q n G (pc + 1) lv (.long x :: st)) : gV E X q n G pc lv st := by
  obtain ⟨p, e, R, s, m, args, below, meth, c, Q, nL⟩ := X
  intro H locs ls hW hS hl
  exact lv_lload_n C.1 C.2.1 hd rfl (hl.2.2 _ _ h) (k H locs ls hW hS hl)
theorem g_lload (C : gCx E X cc own ret F L Mc Ms ini mL) {i : Nat} {x : Int64} (hd : decode cc pc = .ok (.lload i, 2)) (h : lv[i]? = some (some (.long x))) (k : gV E X q n G (pc + 2) lv (.long x :: st)) : gV E X q n G pc lv st := by
  obtain ⟨p, e, R, s, m, args, below, meth, c, Q, nL⟩ := X
  intro H locs ls hW hS hl
  exact lv_lload C.1 C.2.1 hd (hl.2.2 _ _ h) (k H locs ls hW hS hl)
theorem g_aload_n (C : gCx E X cc own ret F L Mc Ms ini mL) {z : Fin 4} {x : Nat} (hd : decode cc pc = .ok (.aload_n z, 1)) (h : lv[(z : Nat)]? = some (some (.ref x))) (k : gV E X q n G (pc + 1) lv (.ref x :: st)) : gV E X q n G pc lv st := by
  obtain ⟨p, e, R, s, m, args, below, meth, c, Q, nL⟩ := X
  intro H locs ls hW hS hl
  exact lv_aload_n C.1 C.2.1 hd rfl (hl.2.2 _ _ h) (k H locs ls hW hS hl)
theorem g_aload (C : gCx E X cc own ret F L Mc Ms ini mL) {i : Nat} {x : Nat} (hd : decode cc pc = .ok (.aload i, 2)) (h : lv[i]? = some (some (.ref x))) (k : gV E X q n G (pc + 2) lv (.ref x :: st)) : gV E X q n G pc lv st := by
  obtain ⟨p, e, R, s, m, args, below, meth, c, Q, nL⟩ := X
  intro H locs ls hW hS hl
  exact lv_aload C.1 C.2.1 hd (hl.2.2 _ _ h) (k H locs ls hW hS hl)
theorem g_istore_n (C : gCx E X cc own ret F L Mc Ms ini mL) {z : Fin 4} {x : Int32} {lv' : List (Option Value)} (hd : decode cc pc = .ok (.istore_n z, 1)) (hi : (z : Nat) < mL) (h : stv lv (z : Nat) (.int x) = lv') (k : gV E X q n G (pc + 1) lv' st) : gV E X q n G pc lv (.int x :: st) := by
  obtain ⟨p, e, R, s, m, args, below, meth, c, Q, nL⟩ := X
  intro H locs ls hW hS hl
  have hn : nL = mL := C.2.2.1.2
  refine lv_istore_n C.1 C.2.1 hd rfl hl.has (by rw [hn]; exact hi) rfl (fun ls' hl' => k H locs ls' hW hS ⟨hl'.1, hl'.2.1, fun j w hw => ?_⟩)
  rw [← h] at hw
  rcases stv_get _ _ _ _ _ hw with ⟨h1, h2⟩ | ⟨h1, h2, h3⟩
  · exact hl'.2.2 (j, w) (by rw [h1, h2]; exact List.mem_cons_self)
  · refine hl'.2.2 (j, w) (List.mem_cons_of_mem _ (List.mem_filter.mpr ⟨lvl_mem.mpr h1, ?_⟩))
    simp only [Bool.and_eq_true, Bool.not_eq_true', beq_eq_false_iff_ne, ne_eq, Bool.and_eq_false_iff]
    refine ⟨h2, ?_⟩
    by_cases hq : j + 1 = (z : Nat)
    · exact Or.inr (fun hc => h3 ⟨hq, hc⟩)
    · exact Or.inl hq
theorem g_istore (C : gCx E X cc own ret F L Mc Ms ini mL) {i : Nat} {x : Int32} {lv' : List (Option Value)} (hd : decode cc pc = .ok (.istore i, 2)) (hi : i < mL) (h : stv lv i (.int x) = lv') (k : gV E X q n G (pc + 2) lv' st) : gV E X q n G pc lv (.int x :: st) := by
  obtain ⟨p, e, R, s, m, args, below, meth, c, Q, nL⟩ := X
  intro H locs ls hW hS hl
  have hn : nL = mL := C.2.2.1.2
  refine lv_istore C.1 C.2.1 hd hl.has (by rw [hn]; exact hi) rfl (fun ls' hl' => k H locs ls' hW hS ⟨hl'.1, hl'.2.1, fun j w hw => ?_⟩)
  rw [← h] at hw
  rcases stv_get _ _ _ _ _ hw with ⟨h1, h2⟩ | ⟨h1, h2, h3⟩
  · exact hl'.2.2 (j, w) (by rw [h1, h2]; exact List.mem_cons_self)
  · refine hl'.2.2 (j, w) (List.mem_cons_of_mem _ (List.mem_filter.mpr ⟨lvl_mem.mpr h1, ?_⟩))
    simp only [Bool.and_eq_true, Bool.not_eq_true', beq_eq_false_iff_ne, ne_eq, Bool.and_eq_false_iff]
    refine ⟨h2, ?_⟩
    by_cases hq : j + 1 = i
    · exact Or.inr (fun hc => h3 ⟨hq, hc⟩)
    · exact Or.inl hq
theorem g_astore_n (C : gCx E X cc own ret F L Mc Ms ini mL) {z : Fin 4} {x : Nat} {lv' : List (Option Value)} (hd : decode cc pc = .ok (.astore_n z, 1)) (hi : (z : Nat) < mL) (h : stv lv (z : Nat) (.ref x) = lv') (k : gV E X q n G (pc + 1) lv' st) : gV E X q n G pc lv (.ref x :: st) := by
  obtain ⟨p, e, R, s, m, args, below, meth, c, Q, nL⟩ := X
  intro H locs ls hW hS hl
  have hn : nL = mL := C.2.2.1.2
  refine lv_astore_n C.1 C.2.1 hd rfl hl.has (by rw [hn]; exact hi) rfl (fun ls' hl' => k H locs ls' hW hS ⟨hl'.1, hl'.2.1, fun j w hw => ?_⟩)
  rw [← h] at hw
  rcases stv_get _ _ _ _ _ hw with ⟨h1, h2⟩ | ⟨h1, h2, h3⟩
  · exact hl'.2.2 (j, w) (by rw [h1, h2]; exact List.mem_cons_self)
  · refine hl'.2.2 (j, w) (List.mem_cons_of_mem _ (List.mem_filter.mpr ⟨lvl_mem.mpr h1, ?_⟩))
    simp only [Bool.and_eq_true, Bool.not_eq_true', beq_eq_false_iff_ne, ne_eq, Bool.and_eq_false_iff]
    refine ⟨h2, ?_⟩
    by_cases hq : j + 1 = (z : Nat)
    · exact Or.inr (fun hc => h3 ⟨hq, hc⟩)
    · exact Or.inl hq
theorem g_astore (C : gCx E X cc own ret F L Mc Ms ini mL) {i : Nat} {x : Nat} {lv' : List (Option Value)} (hd : decode cc pc = .ok (.astore i, 2)) (hi : i < mL) (h : stv lv i (.ref x) = lv') (k : gV E X q n G (pc + 2) lv' st) : gV E X q n G pc lv (.ref x :: st) := by
  obtain ⟨p, e, R, s, m, args, below, meth, c, Q, nL⟩ := X
  intro H locs ls hW hS hl
  have hn : nL = mL := C.2.2.1.2
  refine lv_astore C.1 C.2.1 hd hl.has (by rw [hn]; exact hi) rfl (fun ls' hl' => k H locs ls' hW hS ⟨hl'.1, hl'.2.1, fun j w hw => ?_⟩)
  rw [← h] at hw
  rcases stv_get _ _ _ _ _ hw with ⟨h1, h2⟩ | ⟨h1, h2, h3⟩
  · exact hl'.2.2 (j, w) (by rw [h1, h2]; exact List.mem_cons_self)
  · refine hl'.2.2 (j, w) (List.mem_cons_of_mem _ (List.mem_filter.mpr ⟨lvl_mem.mpr h1, ?_⟩))
    simp only [Bool.and_eq_true, Bool.not_eq_true', beq_eq_false_iff_ne, ne_eq, Bool.and_eq_false_iff]
    refine ⟨h2, ?_⟩
    by_cases hq : j + 1 = i
    · exact Or.inr (fun hc => h3 ⟨hq, hc⟩)
    · exact Or.inl hq
theorem g_lstore_n (C : gCx E X cc own ret F L Mc Ms ini mL) {z : Fin 4} {x : Int64} {lv' : List (Option Value)} (hd : decode cc pc = .ok (.lstore_n z, 1)) (hi : (z : Nat) + 1 < mL) (h : clr (stv lv (z : Nat) (.long x)) ((z : Nat) + 1) = lv') (k : gV E X q n G (pc + 1) lv' st) : gV E X q n G pc lv (.long x :: st) := by
  obtain ⟨p, e, R, s, m, args, below, meth, c, Q, nL⟩ := X
  intro H locs ls hW hS hl
  have hn : nL = mL := C.2.2.1.2
  refine lv_lstore_n C.1 C.2.1 hd rfl hl.has (by rw [hn]; exact hi) rfl (fun ls' hl' => k H locs ls' hW hS ⟨hl'.1, hl'.2.1, fun j w hw => ?_⟩)
  rw [← h] at hw
  obtain ⟨hw, h0⟩ := clr_get _ _ _ _ hw
  rcases stv_get _ _ _ _ _ hw with ⟨h1, h2⟩ | ⟨h1, h2, h3⟩
  · exact hl'.2.2 (j, w) (by rw [h1, h2]; exact List.mem_cons_self)
  · refine hl'.2.2 (j, w) (List.mem_cons_of_mem _ (List.mem_filter.mpr ⟨lvl_mem.mpr h1, ?_⟩))
    simp only [Bool.and_eq_true, Bool.not_eq_true', beq_eq_false_iff_ne, ne_eq, Bool.and_eq_false_iff]
    refine ⟨h2, h0, ?_⟩
    by_cases hq : j + 1 = (z : Nat)
    · exact Or.inr (fun hc => h3 ⟨hq, hc⟩)
    · exact Or.inl hq
theorem g_lstore (C : gCx E X cc own ret F L Mc Ms ini mL) {i : Nat} {x : Int64} {lv' : List (Option Value)} (hd : decode cc pc = .ok (.lstore i, 2)) (hi : i + 1 < mL) (h : clr (stv lv i (.long x)) (i + 1) = lv') (k : gV E X q n G (pc + 2) lv' st) : gV E X q n G pc lv (.long x :: st) := by
  obtain ⟨p, e, R, s, m, args, below, meth, c, Q, nL⟩ := X
  intro H locs ls hW hS hl
  have hn : nL = mL := C.2.2.1.2
  refine lv_lstore C.1 C.2.1 hd hl.has (by rw [hn]; exact hi) rfl (fun ls' hl' => k H locs ls' hW hS ⟨hl'.1, hl'.2.1, fun j w hw => ?_⟩)
  rw [← h] at hw
  obtain ⟨hw, h0⟩ := clr_get _ _ _ _ hw
  rcases stv_get _ _ _ _ _ hw with ⟨h1, h2⟩ | ⟨h1, h2, h3⟩
  · exact hl'.2.2 (j, w) (by rw [h1, h2]; exact List.mem_cons_self)
  · refine hl'.2.2 (j, w) (List.mem_cons_of_mem _ (List.mem_filter.mpr ⟨lvl_mem.mpr h1, ?_⟩))
    simp only [Bool.and_eq_true, Bool.not_eq_true', beq_eq_false_iff_ne, ne_eq, Bool.and_eq_false_iff]
    refine ⟨h2, h0, ?_⟩
    by_cases hq : j + 1 = i
    · exact Or.inr (fun hc => h3 ⟨hq, hc⟩)
    · exact Or.inl hq
theorem g_iinc (C : gCx E X cc own ret F L Mc Ms ini mL) {i : Nat} {z : Int} {x v : Int32} {lv' : List (Option Value)} (hd : decode cc pc = .ok (.iinc i z, 3)) (hi : i < mL) (hx : lv[i]? = some (some (.int x))) (hv : x + Int32.ofInt z = v) (h : stv lv i (.int v) = lv') (k : gV E X q n G (pc + 3) lv' st) : gV E X q n G pc lv st := by
  obtain ⟨p, e, R, s, m, args, below, meth, c, Q, nL⟩ := X
  intro H locs ls hW hS hl
  have hn : nL = mL := C.2.2.1.2
  obtain ⟨j0, hj0⟩ := List.getElem?_of_mem ((lvl_mem (q := (i, .int x))).mpr hx)
  refine lv_iinc C.1 C.2.1 hd hl.has hj0 hv (by rw [hn]; exact hi) rfl (fun ls' hl' => k H locs ls' hW hS ⟨hl'.1, hl'.2.1, fun j w hw => ?_⟩)
  rw [← h] at hw
  rcases stv_get _ _ _ _ _ hw with ⟨h1, h2⟩ | ⟨h1, h2, h3⟩
  · exact hl'.2.2 (j, w) (by rw [h1, h2]; exact List.mem_cons_self)
  · refine hl'.2.2 (j, w) (List.mem_cons_of_mem _ (List.mem_filter.mpr ⟨lvl_mem.mpr h1, ?_⟩))
    simp only [Bool.and_eq_true, Bool.not_eq_true', beq_eq_false_iff_ne, ne_eq, Bool.and_eq_false_iff]
    refine ⟨h2, ?_⟩
    by_cases hq : j + 1 = i
    · exact Or.inr (fun hc => h3 ⟨hq, hc⟩)
    · exact Or.inl hq
theorem g_iadd (C : gCx E X cc own ret F L Mc Ms ini mL) {x y : Int32} (hd : decode cc pc = .ok (.iadd, 1))  (k : gV E X q n G (pc + 1) lv (.int (x + y) :: st)) : gV E X q n G pc lv (.int y :: .int x :: st) := by
  obtain ⟨p, e, R, s, m, args, below, meth, c, Q, nL⟩ := X
  intro H locs ls hW hS hl
  exact lv_iadd C.1 C.2.1 hd (k H locs ls hW hS hl)
theorem g_isub (C : gCx E X cc own ret F L Mc Ms ini mL) {x y : Int32} (hd : decode cc pc = .ok (.isub, 1))  (k : gV E X q n G (pc + 1) lv (.int (x - y) :: st)) : gV E X q n G pc lv (.int y :: .int x :: st) := by
  obtain ⟨p, e, R, s, m, args, below, meth, c, Q, nL⟩ := X
  intro H locs ls hW hS hl
  exact lv_isub C.1 C.2.1 hd (k H locs ls hW hS hl)
theorem g_imul (C : gCx E X cc own ret F L Mc Ms ini mL) {x y : Int32} (hd : decode cc pc = .ok (.imul, 1))  (k : gV E X q n G (pc + 1) lv (.int (x * y) :: st)) : gV E X q n G pc lv (.int y :: .int x :: st) := by
  obtain ⟨p, e, R, s, m, args, below, meth, c, Q, nL⟩ := X
  intro H locs ls hW hS hl
  exact lv_imul C.1 C.2.1 hd (k H locs ls hW hS hl)
theorem g_iand (C : gCx E X cc own ret F L Mc Ms ini mL) {x y : Int32} (hd : decode cc pc = .ok (.iand, 1))  (k : gV E X q n G (pc + 1) lv (.int (x &&& y) :: st)) : gV E X q n G pc lv (.int y :: .int x :: st) := by
  obtain ⟨p, e, R, s, m, args, below, meth, c, Q, nL⟩ := X
  intro H locs ls hW hS hl
  exact lv_iand C.1 C.2.1 hd (k H locs ls hW hS hl)
theorem g_ior (C : gCx E X cc own ret F L Mc Ms ini mL) {x y : Int32} (hd : decode cc pc = .ok (.ior, 1))  (k : gV E X q n G (pc + 1) lv (.int (x ||| y) :: st)) : gV E X q n G pc lv (.int y :: .int x :: st) := by
  obtain ⟨p, e, R, s, m, args, below, meth, c, Q, nL⟩ := X
  intro H locs ls hW hS hl
  exact lv_ior C.1 C.2.1 hd (k H locs ls hW hS hl)
theorem g_ixor (C : gCx E X cc own ret F L Mc Ms ini mL) {x y : Int32} (hd : decode cc pc = .ok (.ixor, 1))  (k : gV E X q n G (pc + 1) lv (.int (x ^^^ y) :: st)) : gV E X q n G pc lv (.int y :: .int x :: st) := by
  obtain ⟨p, e, R, s, m, args, below, meth, c, Q, nL⟩ := X
  intro H locs ls hW hS hl
  exact lv_ixor C.1 C.2.1 hd (k H locs ls hW hS hl)
theorem g_ishl (C : gCx E X cc own ret F L Mc Ms ini mL) {x y : Int32} (hd : decode cc pc = .ok (.ishl, 1))  (k : gV E X q n G (pc + 1) lv (.int (x <<< (y &&& 31)) :: st)) : gV E X q n G pc lv (.int y :: .int x :: st) := by
  obtain ⟨p, e, R, s, m, args, below, meth, c, Q, nL⟩ := X
  intro H locs ls hW hS hl
  exact lv_ishl C.1 C.2.1 hd (k H locs ls hW hS hl)
theorem g_ishr (C : gCx E X cc own ret F L Mc Ms ini mL) {x y : Int32} (hd : decode cc pc = .ok (.ishr, 1))  (k : gV E X q n G (pc + 1) lv (.int (x >>> (y &&& 31)) :: st)) : gV E X q n G pc lv (.int y :: .int x :: st) := by
  obtain ⟨p, e, R, s, m, args, below, meth, c, Q, nL⟩ := X
  intro H locs ls hW hS hl
  exact lv_ishr C.1 C.2.1 hd (k H locs ls hW hS hl)
theorem g_ladd (C : gCx E X cc own ret F L Mc Ms ini mL) {x y : Int64} (hd : decode cc pc = .ok (.ladd, 1))  (k : gV E X q n G (pc + 1) lv (.long (x + y) :: st)) : gV E X q n G pc lv (.long y :: .long x :: st) := by
  obtain ⟨p, e, R, s, m, args, below, meth, c, Q, nL⟩ := X
  intro H locs ls hW hS hl
  exact lv_ladd C.1 C.2.1 hd (k H locs ls hW hS hl)
theorem g_lsub (C : gCx E X cc own ret F L Mc Ms ini mL) {x y : Int64} (hd : decode cc pc = .ok (.lsub, 1))  (k : gV E X q n G (pc + 1) lv (.long (x - y) :: st)) : gV E X q n G pc lv (.long y :: .long x :: st) := by
  obtain ⟨p, e, R, s, m, args, below, meth, c, Q, nL⟩ := X
  intro H locs ls hW hS hl
  exact lv_lsub C.1 C.2.1 hd (k H locs ls hW hS hl)
theorem g_lmul (C : gCx E X cc own ret F L Mc Ms ini mL) {x y : Int64} (hd : decode cc pc = .ok (.lmul, 1))  (k : gV E X q n G (pc + 1) lv (.long (x * y) :: st)) : gV E X q n G pc lv (.long y :: .long x :: st) := by
  obtain ⟨p, e, R, s, m, args, below, meth, c, Q, nL⟩ := X
  intro H locs ls hW hS hl
  exact lv_lmul C.1 C.2.1 hd (k H locs ls hW hS hl)
theorem g_land (C : gCx E X cc own ret F L Mc Ms ini mL) {x y : Int64} (hd : decode cc pc = .ok (.land, 1))  (k : gV E X q n G (pc + 1) lv (.long (x &&& y) :: st)) : gV E X q n G pc lv (.long y :: .long x :: st) := by
  obtain ⟨p, e, R, s, m, args, below, meth, c, Q, nL⟩ := X
  intro H locs ls hW hS hl
  exact lv_land C.1 C.2.1 hd (k H locs ls hW hS hl)
theorem g_lor (C : gCx E X cc own ret F L Mc Ms ini mL) {x y : Int64} (hd : decode cc pc = .ok (.lor, 1))  (k : gV E X q n G (pc + 1) lv (.long (x ||| y) :: st)) : gV E X q n G pc lv (.long y :: .long x :: st) := by
  obtain ⟨p, e, R, s, m, args, below, meth, c, Q, nL⟩ := X
  intro H locs ls hW hS hl
  exact lv_lor C.1 C.2.1 hd (k H locs ls hW hS hl)
theorem g_lxor (C : gCx E X cc own ret F L Mc Ms ini mL) {x y : Int64} (hd : decode cc pc = .ok (.lxor, 1))  (k : gV E X q n G (pc + 1) lv (.long (x ^^^ y) :: st)) : gV E X q n G pc lv (.long y :: .long x :: st) := by
  obtain ⟨p, e, R, s, m, args, below, meth, c, Q, nL⟩ := X
  intro H locs ls hW hS hl
  exact lv_lxor C.1 C.2.1 hd (k H locs ls hW hS hl)
theorem g_idiv (C : gCx E X cc own ret F L Mc Ms ini mL) {x y : Int32} (hd : decode cc pc = .ok (.idiv, 1)) (hy : ¬ y = 0) (k : gV E X q n G (pc + 1) lv (.int (x / y) :: st)) : gV E X q n G pc lv (.int y :: .int x :: st) := by
  obtain ⟨p, e, R, s, m, args, below, meth, c, Q, nL⟩ := X
  intro H locs ls hW hS hl
  exact lv_idiv C.1 C.2.1 hd hy (k H locs ls hW hS hl)
theorem g_irem (C : gCx E X cc own ret F L Mc Ms ini mL) {x y : Int32} (hd : decode cc pc = .ok (.irem, 1)) (hy : ¬ y = 0) (k : gV E X q n G (pc + 1) lv (.int (x - x / y * y) :: st)) : gV E X q n G pc lv (.int y :: .int x :: st) := by
  obtain ⟨p, e, R, s, m, args, below, meth, c, Q, nL⟩ := X
  intro H locs ls hW hS hl
  exact lv_irem C.1 C.2.1 hd hy (k H locs ls hW hS hl)
theorem g_ldiv (C : gCx E X cc own ret F L Mc Ms ini mL) {x y : Int64} (hd : decode cc pc = .ok (.ldiv, 1)) (hy : ¬ y = 0) (k : gV E X q n G (pc + 1) lv (.long (x / y) :: st)) : gV E X q n G pc lv (.long y :: .long x :: st) := by
  obtain ⟨p, e, R, s, m, args, below, meth, c, Q, nL⟩ := X
  intro H locs ls hW hS hl
  exact lv_ldiv C.1 C.2.1 hd hy (k H locs ls hW hS hl)
theorem g_lrem (C : gCx E X cc own ret F L Mc Ms ini mL) {x y : Int64} (hd : decode cc pc = .ok (.lrem, 1)) (hy : ¬ y = 0) (k : gV E X q n G (pc + 1) lv (.long (x - x / y * y) :: st)) : gV E X q n G pc lv (.long y :: .long x :: st) := by
  obtain ⟨p, e, R, s, m, args, below, meth, c, Q, nL⟩ := X
  intro H locs ls hW hS hl
  exact lv_lrem C.1 C.2.1 hd hy (k H locs ls hW hS hl)
theorem g_ineg (C : gCx E X cc own ret F L Mc Ms ini mL) {x : Int32} (hd : decode cc pc = .ok (.ineg, 1))  (k : gV E X q n G (pc + 1) lv (.int (-x) :: st)) : gV E X q n G pc lv (.int x :: st) := by
  obtain ⟨p, e, R, s, m, args, below, meth, c, Q, nL⟩ := X
  intro H locs ls hW hS hl
  exact lv_ineg C.1 C.2.1 hd (k H locs ls hW hS hl)
theorem g_i2l (C : gCx E X cc own ret F L Mc Ms ini mL) {x : Int32} (hd : decode cc pc = .ok (.i2l, 1))  (k : gV E X q n G (pc + 1) lv (.long x.toInt64 :: st)) : gV E X q n G pc lv (.int x :: st) := by
  obtain ⟨p, e, R, s, m, args, below, meth, c, Q, nL⟩ := X
  intro H locs ls hW hS hl
  exact lv_i2l C.1 C.2.1 hd rfl (k H locs ls hW hS hl)
theorem g_l2i (C : gCx E X cc own ret F L Mc Ms ini mL) {x : Int64} (hd : decode cc pc = .ok (.l2i, 1))  (k : gV E X q n G (pc + 1) lv (.int x.toInt32 :: st)) : gV E X q n G pc lv (.long x :: st) := by
  obtain ⟨p, e, R, s, m, args, below, meth, c, Q, nL⟩ := X
  intro H locs ls hW hS hl
  exact lv_l2i C.1 C.2.1 hd rfl (k H locs ls hW hS hl)
theorem g_lshl (C : gCx E X cc own ret F L Mc Ms ini mL) {x : Int64} {y : Int32} (hd : decode cc pc = .ok (.lshl, 1))  (k : gV E X q n G (pc + 1) lv (.long (x <<< (y.toInt64 &&& 63)) :: st)) : gV E X q n G pc lv (.int y :: .long x :: st) := by
  obtain ⟨p, e, R, s, m, args, below, meth, c, Q, nL⟩ := X
  intro H locs ls hW hS hl
  exact lv_lshl C.1 C.2.1 hd rfl (k H locs ls hW hS hl)
theorem g_lushr (C : gCx E X cc own ret F L Mc Ms ini mL) {x : Int64} {y : Int32} (hd : decode cc pc = .ok (.lushr, 1))  (k : gV E X q n G (pc + 1) lv (.long (x.toUInt64 >>> (y.toInt64.toUInt64 &&& Int64.toUInt64 63)).toInt64 :: st)) : gV E X q n G pc lv (.int y :: .long x :: st) := by
  obtain ⟨p, e, R, s, m, args, below, meth, c, Q, nL⟩ := X
  intro H locs ls hW hS hl
  exact lv_lushr C.1 C.2.1 hd rfl (k H locs ls hW hS hl)
theorem g_lcmp (C : gCx E X cc own ret F L Mc Ms ini mL) {x y : Int64} (hd : decode cc pc = .ok (.lcmp, 1))  (k : gV E X q n G (pc + 1) lv (.int (lg_cmp x y) :: st)) : gV E X q n G pc lv (.long y :: .long x :: st) := by
  obtain ⟨p, e, R, s, m, args, below, meth, c, Q, nL⟩ := X
  intro H locs ls hW hS hl
  exact W.lcmp C.1 C.2.1 hd (k H locs ls hW hS hl)
theorem g_dup (C : gCx E X cc own ret F L Mc Ms ini mL) {va : Value} (hd : decode cc pc = .ok (.dup, 1)) (hv : va.category = 1) (k : gV E X q n G (pc + 1) lv (va :: va :: st)) : gV E X q n G pc lv (va :: st) := by
  obtain ⟨p, e, R, s, m, args, below, meth, c, Q, nL⟩ := X
  intro H locs ls hW hS hl
  exact lv_dup C.1 C.2.1 hd hv (k H locs ls hW hS hl)
theorem g_dup2 (C : gCx E X cc own ret F L Mc Ms ini mL) {va vb : Value} (hd : decode cc pc = .ok (.dup2, 1)) (hv : va.category = 1) (hw : vb.category = 1) (k : gV E X q n G (pc + 1) lv (va :: vb :: va :: vb :: st)) : gV E X q n G pc lv (va :: vb :: st) := by
  obtain ⟨p, e, R, s, m, args, below, meth, c, Q, nL⟩ := X
  intro H locs ls hW hS hl
  exact lv_dup2_11 C.1 C.2.1 hd hv hw (k H locs ls hW hS hl)
theorem g_pop (C : gCx E X cc own ret F L Mc Ms ini mL) {va : Value} (hd : decode cc pc = .ok (.pop, 1)) (hv : va.category = 1) (k : gV E X q n G (pc + 1) lv (st)) : gV E X q n G pc lv (va :: st) := by
  obtain ⟨p, e, R, s, m, args, below, meth, c, Q, nL⟩ := X
  intro H locs ls hW hS hl
  exact lv_pop C.1 C.2.1 hd hv (k H locs ls hW hS hl)
theorem g_if_eq (C : gCx E X cc own ret F L Mc Ms ini mL) {x : Int32} {off : Int} {tgt : Nat} (hd : decode cc pc = .ok (.ifCond .eq off, 3)) (ht : (pc : Int) + off = (tgt : Int)) (kt : x = 0 → gV E X q n G tgt lv st) (kf : ¬ x = 0 → gV E X q n G (pc + 3) lv st) : gV E X q n G pc lv (.int x :: st) := by
  obtain ⟨p, e, R, s, m, args, below, meth, c, Q, nL⟩ := X
  intro H locs ls hW hS hl
  exact lv_if_eq C.1 C.2.1 hd ht (fun h => kt h H locs ls hW hS hl) (fun h => kf h H locs ls hW hS hl)
theorem g_icmp_eq (C : gCx E X cc own ret F L Mc Ms ini mL) {x y : Int32} {off : Int} {tgt : Nat} (hd : decode cc pc = .ok (.if_icmp .eq off, 3)) (ht : (pc : Int) + off = (tgt : Int)) (kt : x = y → gV E X q n G tgt lv st) (kf : ¬ x = y → gV E X q n G (pc + 3) lv st) : gV E X q n G pc lv (.int y :: .int x :: st) := by
  obtain ⟨p, e, R, s, m, args, below, meth, c, Q, nL⟩ := X
  intro H locs ls hW hS hl
  exact lv_icmp_eq C.1 C.2.1 hd ht (fun h => kt h H locs ls hW hS hl) (fun h => kf h H locs ls hW hS hl)
theorem g_if_ne (C : gCx E X cc own ret F L Mc Ms ini mL) {x : Int32} {off : Int} {tgt : Nat} (hd : decode cc pc = .ok (.ifCond .ne off, 3)) (ht : (pc : Int) + off = (tgt : Int)) (kt : ¬ x = 0 → gV E X q n G tgt lv st) (kf : x = 0 → gV E X q n G (pc + 3) lv st) : gV E X q n G pc lv (.int x :: st) := by
  obtain ⟨p, e, R, s, m, args, below, meth, c, Q, nL⟩ := X
  intro H locs ls hW hS hl
  exact lv_if_ne C.1 C.2.1 hd ht (fun h => kt h H locs ls hW hS hl) (fun h => kf h H locs ls hW hS hl)
theorem g_icmp_ne (C : gCx E X cc own ret F L Mc Ms ini mL) {x y : Int32} {off : Int} {tgt : Nat} (hd : decode cc pc = .ok (.if_icmp .ne off, 3)) (ht : (pc : Int) + off = (tgt : Int)) (kt : ¬ x = y → gV E X q n G tgt lv st) (kf : x = y → gV E X q n G (pc + 3) lv st) : gV E X q n G pc lv (.int y :: .int x :: st) := by
  obtain ⟨p, e, R, s, m, args, below, meth, c, Q, nL⟩ := X
  intro H locs ls hW hS hl
  exact lv_icmp_ne C.1 C.2.1 hd ht (fun h => kt h H locs ls hW hS hl) (fun h => kf h H locs ls hW hS hl)
theorem g_if_lt (C : gCx E X cc own ret F L Mc Ms ini mL) {x : Int32} {off : Int} {tgt : Nat} (hd : decode cc pc = .ok (.ifCond .lt off, 3)) (ht : (pc : Int) + off = (tgt : Int)) (kt : x < 0 → gV E X q n G tgt lv st) (kf : ¬ x < 0 → gV E X q n G (pc + 3) lv st) : gV E X q n G pc lv (.int x :: st) := by
  obtain ⟨p, e, R, s, m, args, below, meth, c, Q, nL⟩ := X
  intro H locs ls hW hS hl
  exact lv_if_lt C.1 C.2.1 hd ht (fun h => kt h H locs ls hW hS hl) (fun h => kf h H locs ls hW hS hl)
theorem g_icmp_lt (C : gCx E X cc own ret F L Mc Ms ini mL) {x y : Int32} {off : Int} {tgt : Nat} (hd : decode cc pc = .ok (.if_icmp .lt off, 3)) (ht : (pc : Int) + off = (tgt : Int)) (kt : x < y → gV E X q n G tgt lv st) (kf : ¬ x < y → gV E X q n G (pc + 3) lv st) : gV E X q n G pc lv (.int y :: .int x :: st) := by
  obtain ⟨p, e, R, s, m, args, below, meth, c, Q, nL⟩ := X
  intro H locs ls hW hS hl
  exact lv_icmp_lt C.1 C.2.1 hd ht (fun h => kt h H locs ls hW hS hl) (fun h => kf h H locs ls hW hS hl)
theorem g_if_ge (C : gCx E X cc own ret F L Mc Ms ini mL) {x : Int32} {off : Int} {tgt : Nat} (hd : decode cc pc = .ok (.ifCond .ge off, 3)) (ht : (pc : Int) + off = (tgt : Int)) (kt : 0 ≤ x → gV E X q n G tgt lv st) (kf : ¬ 0 ≤ x → gV E X q n G (pc + 3) lv st) : gV E X q n G pc lv (.int x :: st) := by
  obtain ⟨p, e, R, s, m, args, below, meth, c, Q, nL⟩ := X
  intro H locs ls hW hS hl
  exact lv_if_ge C.1 C.2.1 hd ht (fun h => kt h H locs ls hW hS hl) (fun h => kf h H locs ls hW hS hl)
theorem g_icmp_ge (C : gCx E X cc own ret F L Mc Ms ini mL) {x y : Int32} {off : Int} {tgt : Nat} (hd : decode cc pc = .ok (.if_icmp .ge off, 3)) (ht : (pc : Int) + off = (tgt : Int)) (kt : y ≤ x → gV E X q n G tgt lv st) (kf : ¬ y ≤ x → gV E X q n G (pc + 3) lv st) : gV E X q n G pc lv (.int y :: .int x :: st) := by
  obtain ⟨p, e, R, s, m, args, below, meth, c, Q, nL⟩ := X
  intro H locs ls hW hS hl
  exact lv_icmp_ge C.1 C.2.1 hd ht (fun h => kt h H locs ls hW hS hl) (fun h => kf h H locs ls hW hS hl)
theorem g_if_gt (C : gCx E X cc own ret F L Mc Ms ini mL) {x : Int32} {off : Int} {tgt : Nat} (hd : decode cc pc = .ok (.ifCond .gt off, 3)) (ht : (pc : Int) + off = (tgt : Int)) (kt : 0 < x → gV E X q n G tgt lv st) (kf : ¬ 0 < x → gV E X q n G (pc + 3) lv st) : gV E X q n G pc lv (.int x :: st) := by
  obtain ⟨p, e, R, s, m, args, below, meth, c, Q, nL⟩ := X
  intro H locs ls hW hS hl
  exact lv_if_gt C.1 C.2.1 hd ht (fun h => kt h H locs ls hW hS hl) (fun h => kf h H locs ls hW hS hl)
theorem g_icmp_gt (C : gCx E X cc own ret F L Mc Ms ini mL) {x y : Int32} {off : Int} {tgt : Nat} (hd : decode cc pc = .ok (.if_icmp .gt off, 3)) (ht : (pc : Int) + off = (tgt : Int)) (kt : y < x → gV E X q n G tgt lv st) (kf : ¬ y < x → gV E X q n G (pc + 3) lv st) : gV E X q n G pc lv (.int y :: .int x :: st) := by
  obtain ⟨p, e, R, s, m, args, below, meth, c, Q, nL⟩ := X
  intro H locs ls hW hS hl
  exact lv_icmp_gt C.1 C.2.1 hd ht (fun h => kt h H locs ls hW hS hl) (fun h => kf h H locs ls hW hS hl)
theorem g_if_le (C : gCx E X cc own ret F L Mc Ms ini mL) {x : Int32} {off : Int} {tgt : Nat} (hd : decode cc pc = .ok (.ifCond .le off, 3)) (ht : (pc : Int) + off = (tgt : Int)) (kt : x ≤ 0 → gV E X q n G tgt lv st) (kf : ¬ x ≤ 0 → gV E X q n G (pc + 3) lv st) : gV E X q n G pc lv (.int x :: st) := by
  obtain ⟨p, e, R, s, m, args, below, meth, c, Q, nL⟩ := X
  intro H locs ls hW hS hl
  exact lv_if_le C.1 C.2.1 hd ht (fun h => kt h H locs ls hW hS hl) (fun h => kf h H locs ls hW hS hl)
theorem g_icmp_le (C : gCx E X cc own ret F L Mc Ms ini mL) {x y : Int32} {off : Int} {tgt : Nat} (hd : decode cc pc = .ok (.if_icmp .le off, 3)) (ht : (pc : Int) + off = (tgt : Int)) (kt : x ≤ y → gV E X q n G tgt lv st) (kf : ¬ x ≤ y → gV E X q n G (pc + 3) lv st) : gV E X q n G pc lv (.int y :: .int x :: st) := by
  obtain ⟨p, e, R, s, m, args, below, meth, c, Q, nL⟩ := X
  intro H locs ls hW hS hl
  exact lv_icmp_le C.1 C.2.1 hd ht (fun h => kt h H locs ls hW hS hl) (fun h => kf h H locs ls hW hS hl)
theorem g_goto (C : gCx E X cc own ret F L Mc Ms ini mL) {off : Int} {tgt : Nat} (hd : decode cc pc = .ok (.goto off, 3)) (ht : (pc : Int) + off = (tgt : Int)) (k : gV E X q n G tgt lv st) : gV E X q n G pc lv st := by
  obtain ⟨p, e, R, s, m, args, below, meth, c, Q, nL⟩ := X
  intro H locs ls hW hS hl
  exact lv_goto C.1 C.2.1 hd ht (k H locs ls hW hS hl)
theorem g_tabIn (C : gCx E X cc own ret F L Mc Ms ini mL) {dflt lo hi : Int} {offs : Array Int} {len : Nat} {x : Int32} {off : Int} {tgt : Nat} (hd : decode cc pc = .ok (.tableswitch dflt lo hi offs, len)) (z : Int) (hx : x.toInt = z) (h1 : ¬ z < lo) (h2 : ¬ hi < z) (ho : offs[(z - lo).toNat]? = some off) (ht : (pc : Int) + off = (tgt : Int)) (k : gV E X q n G tgt lv st) : gV E X q n G pc lv (.int x :: st) := by
  obtain ⟨p, e, R, s, m, args, below, meth, c, Q, nL⟩ := X
  intro H locs ls hW hS hl
  subst hx
  exact lv_tableIn C.1 C.2.1 hd h1 h2 ho ht (k H locs ls hW hS hl)
theorem g_tabOut (C : gCx E X cc own ret F L Mc Ms ini mL) {dflt lo hi : Int} {offs : Array Int} {len : Nat} {x : Int32} {tgt : Nat} (hd : decode cc pc = .ok (.tableswitch dflt lo hi offs, len)) (h : x.toInt < lo ∨ hi < x.toInt) (ht : (pc : Int) + dflt = (tgt : Int)) (k : gV E X q n G tgt lv st) : gV E X q n G pc lv (.int x :: st) := by
  obtain ⟨p, e, R, s, m, args, below, meth, c, Q, nL⟩ := X
  intro H locs ls hW hS hl
  exact lv_tableOut C.1 C.2.1 hd h ht (k H locs ls hW hS hl)
/-- fewer locals are known from here on -/
theorem g_sub {lv' : List (Option Value)} (h : lvs lv lv') (k : gV E X q n G pc lv' st) : gV E X q n G pc lv st := by
  obtain ⟨p, e, R, s, m, args, below, meth, c, Q, nL⟩ := X
  intro H locs ls hW hS hl
  exact k H locs ls hW hS (hl.sub (lvs_get _ _ h))
theorem g_wide {q' n' : Nat} (hq : q ≤ q') (hn : n ≤ n') (k : gV E X q' n' G pc lv st) : gV E X q n G pc lv st := by
  obtain ⟨p, e, R, s, m, args, below, meth, c, Q, nL⟩ := X
  intro H locs ls hW hS hl
  exact W.widen hq hn (k H locs ls hW hS hl)
end GR
end
section
/-! ===== fields ===== -/
/-- a link of an own field: class ci's slot k, of type ty, code t in fty -/
def FL (own : String) (idx ci k t : Nat) (fin : Bool) (ty : FieldType) : Prop := ∃ (C : String) (T : u_T) (N : Nat) (t0 : Nat → FieldType), vwCl[ci]? = some (C, T, N) ∧ (∀ w ∈ u_ws C T N, w ∈ TB) ∧ (∀ j, j < N → parseFieldDescriptor (T j).2.2.1 = some (t0 j)) ∧ (∀ a, a < N → ∀ b, b < N → a ≠ b → (T a).2.1 ≠ (T b).2.1) ∧ k < N ∧ t0 k = ty ∧ (T k).2.2.2 = fin ∧ (fin = true → C = own → (T k).1 = own) ∧ Cond.fieldLink own idx (T k).1 (T k).2.1 (T k).2.2.1 ∈ TB ∧ (fty ci)[k]? = some t ∧ ci < 11
theorem FL.mk' {own : String} {idx ci k t : Nat} {fin : Bool} {ty : FieldType} (C : String) (T : u_T) (N : Nat) (t0 : Nat → FieldType) (h1 : vwCl[ci]? = some (C, T, N)) (h2 : ∀ w ∈ u_ws C T N, w ∈ TB) (h3 : ∀ j, j < N → parseFieldDescriptor (T j).2.2.1 = some (t0 j)) (h4 : ∀ a, a < N → ∀ b, b < N → a ≠ b → (T a).2.1 ≠ (T b).2.1) (h5 : k < N) (h6 : t0 k = ty) (h7 : (T k).2.2.2 = fin) (h8 : fin = true → C = own → (T k).1 = own) (h9 : Cond.fieldLink own idx (T k).1 (T k).2.1 (T k).2.2.1 ∈ TB) (h10 : (fty ci)[k]? = some t) (h11 : ci < 11) : FL own idx ci k t fin ty := ⟨C, T, N, t0, h1, h2, h3, h4, h5, h6, h7, h8, h9, h10, h11⟩
section GH
variable {E : EE} {X : CT} {cc : ByteArray} {own : String} {ret : Option FieldType} {F L Mc Ms : Nat} {ini : Bool} {mL : Nat} {q n : Nat} {G : Hp} {pc : Nat} {lv : List (Option Value)} {st : List Value}
theorem g_get (C : gCx E X cc own ret F L Mc Ms ini mL) {idx ci k t a : Nat} {fin : Bool} {ty : FieldType} (hF : FL own idx ci k t fin ty) (hd : decode cc pc = .ok (.getfield idx, 3)) (hg : a < h_n G ∧ h_k G a = ci) (kk : gV E X q n G (pc + 3) lv (f_v E.2.1 G a t k :: st)) : gV E X q n G pc lv (.ref (E.2.1 + a) :: st) := by
  obtain ⟨p, e, R, s, m, args, below, meth, c, Q, nL⟩ := X
  intro H locs ls hW hS hl
  obtain ⟨C0, T, N, t0, h1, h2, h3, h4, h5, h6, h7, h8, h9, h10, h11⟩ := hF
  have he : (g_wl E G)[a]? = some (E.2.1 + a, .inr (ci, f_go (f_v E.2.1 G a) (fty ci) 0)) := by rw [wl_get hg.1, ent_o hg.2 h11]
  exact va_get C.1 C.2.1 C.2.2.2.2.1 h2 C.2.2.2.1 C.2.2.2.2.2.1.1 hW.1 a he h1 k h5 (C.2.2.2.2.1 _ h9) (by
    have : (T k).1 = (T k).1 := rfl
    exact fun x hx => hx) (by rw [f_go_get, h10]; simp) hd (kk H locs ls hW hS hl)
theorem g_getI (C : gCx E X cc own ret F L Mc Ms ini mL) {idx ci k a : Nat} {fin : Bool} {ty : FieldType} (hF : FL own idx ci k 0 fin ty) (hd : decode cc pc = .ok (.getfield idx, 3)) (hg : a < h_n G ∧ h_k G a = ci) (kk : gV E X q n G (pc + 3) lv (.int (h_i G a k) :: st)) : gV E X q n G pc lv (.ref (E.2.1 + a) :: st) := g_get C hF hd hg kk
theorem g_getL (C : gCx E X cc own ret F L Mc Ms ini mL) {idx ci k a : Nat} {fin : Bool} {ty : FieldType} (hF : FL own idx ci k 1 fin ty) (hd : decode cc pc = .ok (.getfield idx, 3)) (hg : a < h_n G ∧ h_k G a = ci) (kk : gV E X q n G (pc + 3) lv (.long (h_l G a k) :: st)) : gV E X q n G pc lv (.ref (E.2.1 + a) :: st) := g_get C hF hd hg kk
theorem g_getR (C : gCx E X cc own ret F L Mc Ms ini mL) {idx ci k a r : Nat} {fin : Bool} {ty : FieldType} (hF : FL own idx ci k 2 fin ty) (hd : decode cc pc = .ok (.getfield idx, 3)) (hg : (a < h_n G ∧ h_k G a = ci) ∧ h_r G a k = some r) (kk : gV E X q n G (pc + 3) lv (.ref (E.2.1 + r) :: st)) : gV E X q n G pc lv (.ref (E.2.1 + a) :: st) := by
  refine g_get C hF hd hg.1 ?_
  have e : f_v E.2.1 G a 2 k = .ref (E.2.1 + r) := by
    show va_rf ((h_r G a k).map (fun q => E.2.1 + q)) = _
    rw [hg.2]
    rfl
  rw [e]
  exact kk
theorem g_put (C : gCx E X cc own ret F L Mc Ms ini mL) {idx ci k t a : Nat} {fin : Bool} {ty : FieldType} {v : Value} {G' : Hp} (hF : FL own idx ci k t fin ty) (hd : decode cc pc = .ok (.putfield idx, 3)) (hg : a < h_n G ∧ h_k G a = ci) (hfi : fin = false ∨ (ini = true ∧ vwCl[ci]?.map (fun z => z.1) = some own)) (hn : narrow ty v = v) (hfit : fits ty v = true) (g1 : h_n G' = h_n G) (g2 : ∀ b, h_k G' b = h_k G b) (g3 : f_v E.2.1 G' a t k = v) (g4 : ∀ t' j, j ≠ k → f_v E.2.1 G' a t' j = f_v E.2.1 G a t' j) (g5 : ∀ b, b ≠ a → ∀ t' j, f_v E.2.1 G' b t' j = f_v E.2.1 G b t' j) (g6 : ∀ b, h_z G' b = h_z G b ∧ h_a G' b = h_a G b) (kk : gV E X q n G' (pc + 3) lv st) : gV E X q n G pc lv (v :: .ref (E.2.1 + a) :: st) := by
  obtain ⟨p, e, R, s, m, args, below, meth, c, Q, nL⟩ := X
  intro H locs ls hW hS hl
  obtain ⟨C0, T, N, t0, h1, h2, h3, h4, h5, h6, h7, h8, h9, h10, h11⟩ := hF
  have he : (g_wl E G)[a]? = some (E.2.1 + a, .inr (ci, f_go (f_v E.2.1 G a) (fty ci) 0)) := by rw [wl_get hg.1, ent_o hg.2 h11]
  have hset : (g_wl E G).set a (E.2.1 + a, .inr (ci, (f_go (f_v E.2.1 G a) (fty ci) 0).set k v)) = g_wl E G' := by
    refine wl_set hg.1 g1 ?_ ?_
    · rw [ent_o ((g2 a).trans hg.2) h11, ← f_go_set (g := f_v E.2.1 G a) (g' := f_v E.2.1 G' a) h10 g4, g3]
    · intro b hb
      unfold g_ent
      rw [g2 b, (g6 b).1, (g6 b).2, f_go_congr (g' := f_v E.2.1 G' b) (g := f_v E.2.1 G b) (g5 b hb)]
  have hlen : k < (f_go (f_v E.2.1 G a) (fty ci) 0).length := by
    rw [f_go_len]
    exact (List.getElem?_eq_some_iff.mp h10).1
  obtain ⟨r, r1, cell, q1, q2, q3, q4⟩ := hW.1 a _ he
  have hr : r = (C0, T, N) := Option.some.inj (r1.symm.trans h1)
  subst hr
  have hap := va_apart (own := own) C.2.2.2.2.1 h2 t0 h3 h4 C.2.2.2.2.2.1.1 h1
  obtain ⟨hS1, hfc, kC, hkC, hkind⟩ := C.2.2.2.2.2.1.1.1 ci _ h1
  obtain ⟨cf, kf, fi, f, hi, hsl⟩ := hS1 k h5
  have hlay := C.2.2.2.2.1 _ (h2 _ (u_in_lay h5))
  have hst := (u_facts hfc hkC (u_lays C.2.2.2.2.1 h2 h5) hi).1
  have hd0 : parseFieldDescriptor (T k).2.2.1 = some ty := by rw [h3 k h5, h6]
  have fin' : ∀ H' : Heap, H'[E.2.1 + a]? = some (cell.setSlot f.slot v) → H'.size = H.size → (∀ q0, q0 ≠ E.2.1 + a → H'[q0]? = H[q0]?) → W p E.1 e R s m args below meth c H' (locs ++ [⟨E.2.1 + a, f.slot⟩]) q n Q (F0 m (pc + 3) ls st) := by
    intro H' e1 e2 e3
    rw [hsl] at e1 ⊢
    refine kk H' _ ls ⟨?_, by rw [e2, hW.2, g1]⟩ (hS.put e2 e3 (by show E.2.1 ≤ E.2.1 + a; omega)) hl
    rw [← hset]
    exact hW.1.set (wl_D E G) he ⟨_, h1, t_OB.to (V := updV (vp_V _) k v) ⟨_, e1, q2, q3, t_set q4 hap h5 v⟩ (fun j _ => vp_updV_set hlen v j)⟩ e3
  cases fin with
  | false =>
    unfold u_lay at hlay
    rw [if_neg (by rw [h7]; decide)] at hlay
    have h6' := u_store hfc hkC hkind hlay hi hd0 hn hfit
    exact W.putK C.1 C.2.1 (f := f) ⟨C.2.2.2.1, C.2.2.2.2.1 _ h9, ⟨_, _, _, hi⟩, hst⟩ (by rw [q2]; exact h6') q1 q3 (by rw [hsl]; exact k2_hasslot (q4 k h5)) rfl rfl hd fin'
  | true =>
    unfold u_lay at hlay
    rw [if_pos h7] at hlay
    have hini : ini = true ∧ C0 = own := by
      rcases hfi with h | h
      · cases h
      · refine ⟨h.1, ?_⟩
        have h' := h.2
        rw [h1] at h'
        exact Option.some.inj h'
    have hcf : m.cls = cf := by
      obtain ⟨_, _, c', _, _, _, -, -, hf', -, -, -, hown2, -⟩ := Cond.laysFinal_spec hlay
      have e1 : c' = cf := by have := hi.symm.trans hf'; simp at this; exact this.1.symm
      rw [h8 rfl hini.2] at hown2
      rw [← e1]; exact Option.some.inj (C.2.2.2.1.symm.trans hown2)
    have h6' := u_fits hfc hkC hkind (Or.inr hlay) hi hd0 hn hfit
    exact W.putFinK C.1 C.2.1 C.2.2.2.1 (C.2.2.2.2.1 _ h9) hi hst hcf (C.2.2.2.2.2.2.2.2.2 hini.1) (by rw [q2]; exact h6') q1 q3 (by rw [hsl]; exact k2_hasslot (q4 k h5)) rfl rfl hd fin'
theorem g_putI (C : gCx E X cc own ret F L Mc Ms ini mL) {idx ci k a : Nat} {fin : Bool} {ty : FieldType} {v : Int32} (hF : FL own idx ci k 0 fin ty) (hd : decode cc pc = .ok (.putfield idx, 3)) (hg : a < h_n G ∧ h_k G a = ci) (hfi : fin = false ∨ (ini = true ∧ vwCl[ci]?.map (fun z => z.1) = some own)) (hn : narrow ty (.int v) = .int v) (hfit : fits ty (.int v) = true) (kk : gV E X q n (s_i G a k v) (pc + 3) lv st) : gV E X q n G pc lv (.int v :: .ref (E.2.1 + a) :: st) := by
  refine g_put (G' := s_i G a k v) C hF hd hg hfi hn hfit rfl (fun _ => rfl) ?_ ?_ ?_ (fun _ => ⟨rfl, rfl⟩) kk
  · show Value.int (if a = a ∧ k = k then v else _) = _
    rw [if_pos ⟨rfl, rfl⟩]
  · intro t' j hj
    have : h_i (s_i G a k v) a j = h_i G a j := if_neg (fun h => hj h.2)
    unfold f_v
    rw [this]
    rfl
  · intro b hb t' j
    have : h_i (s_i G a k v) b j = h_i G b j := if_neg (fun h => hb h.1)
    unfold f_v
    rw [this]
    rfl
theorem g_putL (C : gCx E X cc own ret F L Mc Ms ini mL) {idx ci k a : Nat} {fin : Bool} {v : Int64} (hF : FL own idx ci k 1 fin .long) (hd : decode cc pc = .ok (.putfield idx, 3)) (hg : a < h_n G ∧ h_k G a = ci) (hfi : fin = false ∨ (ini = true ∧ vwCl[ci]?.map (fun z => z.1) = some own)) (kk : gV E X q n (s_l G a k v) (pc + 3) lv st) : gV E X q n G pc lv (.long v :: .ref (E.2.1 + a) :: st) := by
  refine g_put (G' := s_l G a k v) C hF hd hg hfi rfl rfl rfl (fun _ => rfl) ?_ ?_ ?_ (fun _ => ⟨rfl, rfl⟩) kk
  · show Value.long (if a = a ∧ k = k then v else _) = _
    rw [if_pos ⟨rfl, rfl⟩]
  · intro t' j hj
    have : h_l (s_l G a k v) a j = h_l G a j := if_neg (fun h => hj h.2)
    unfold f_v
    rw [this]
    rfl
  · intro b hb t' j
    have : h_l (s_l G a k v) b j = h_l G b j := if_neg (fun h => hb h.1)
    unfold f_v
    rw [this]
    rfl
theorem g_putR (C : gCx E X cc own ret F L Mc Ms ini mL) {idx ci k a r : Nat} {fin : Bool} {ty : FieldType} (hF : FL own idx ci k 2 fin ty) (hd : decode cc pc = .ok (.putfield idx, 3)) (hg : a < h_n G ∧ h_k G a = ci) (hfi : fin = false ∨ (ini = true ∧ vwCl[ci]?.map (fun z => z.1) = some own)) (hn : narrow ty (.ref (E.2.1 + r)) = .ref (E.2.1 + r)) (hfit : fits ty (.ref (E.2.1 + r)) = true) (kk : gV E X q n (s_r G a k (some r)) (pc + 3) lv st) : gV E X q n G pc lv (.ref (E.2.1 + r) :: .ref (E.2.1 + a) :: st) := by
  refine g_put (G' := s_r G a k (some r)) C hF hd hg hfi hn hfit rfl (fun _ => rfl) ?_ ?_ ?_ (fun _ => ⟨rfl, rfl⟩) kk
  · show va_rf ((if a = a ∧ k = k then some r else _).map _) = _
    rw [if_pos ⟨rfl, rfl⟩]
    rfl
  · intro t' j hj
    have : h_r (s_r G a k (some r)) a j = h_r G a j := if_neg (fun h => hj h.2)
    unfold f_v
    rw [this]
    rfl
  · intro b hb t' j
    have : h_r (s_r G a k (some r)) b j = h_r G b j := if_neg (fun h => hb h.1)
    unfold f_v
    rw [this]
    rfl
/-! ===== arrays ===== -/
theorem g_alen (C : gCx E X cc own ret F L Mc Ms ini mL) {a : Nat} (hd : decode cc pc = .ok (.arraylength, 1)) (hg : a < h_n G ∧ h_k G a = 11) (kk : gV E X q n G (pc + 1) lv (.int (Int32.ofNat (h_z G a)) :: st)) : gV E X q n G pc lv (.ref (E.2.1 + a) :: st) := by
  obtain ⟨p, e, R, s, m, args, below, meth, c, Q, nL⟩ := X
  intro H locs ls hW hS hl
  have he : (g_wl E G)[a]? = some (E.2.1 + a, .inl (E.2.2.2.1.1, h_z G a, .inl (h_a G a))) := by rw [wl_get hg.1, ent_i hg.2]
  exact va_alen C.1 C.2.1 C.2.2.2.2.2.1.1 hW.1 a 0 he (ty := .int) rfl rfl hd (kk H locs ls hW hS hl)
theorem g_iald (C : gCx E X cc own ret F L Mc Ms ini mL) {a : Nat} {i : Int32} (hd : decode cc pc = .ok (.iaload, 1)) (hg : (a < h_n G ∧ h_k G a = 11) ∧ vp_in i (h_z G a)) (kk : gV E X q n G (pc + 1) lv (.int (h_a G a i.toNatClampNeg) :: st)) : gV E X q n G pc lv (.int i :: .ref (E.2.1 + a) :: st) := by
  obtain ⟨p, e, R, s, m, args, below, meth, c, Q, nL⟩ := X
  intro H locs ls hW hS hl
  have he : (g_wl E G)[a]? = some (E.2.1 + a, .inl (E.2.2.2.1.1, h_z G a, .inl (h_a G a))) := by rw [wl_get hg.1.1, ent_i hg.1.2]
  exact va_iald C.1 C.2.1 C.2.2.2.2.2.1.1 hW.1 a 0 he rfl hg.2 hd (kk H locs ls hW hS hl)
theorem g_zald (C : gCx E X cc own ret F L Mc Ms ini mL) {a : Nat} {i : Int32} (hd : decode cc pc = .ok (.baload, 1)) (hg : (a < h_n G ∧ h_k G a = 12) ∧ vp_in i (h_z G a)) (kk : gV E X q n G (pc + 1) lv (.int (h_a G a i.toNatClampNeg) :: st)) : gV E X q n G pc lv (.int i :: .ref (E.2.1 + a) :: st) := by
  obtain ⟨p, e, R, s, m, args, below, meth, c, Q, nL⟩ := X
  intro H locs ls hW hS hl
  have he : (g_wl E G)[a]? = some (E.2.1 + a, .inl (E.2.2.2.1.2, h_z G a, .inl (h_a G a))) := by rw [wl_get hg.1.1, ent_z hg.1.2]
  exact va_zald C.1 C.2.1 C.2.2.2.2.2.1.1 hW.1 a 1 he rfl hg.2 hd (kk H locs ls hW hS hl)
theorem wl_arr {G : Hp} {a : Nat} {g : Nat → Int32} {cA : ClassId} (h : a < h_n G) (hk : (h_k G a = 11 ∧ cA = E.2.2.2.1.1) ∨ (h_k G a = 12 ∧ cA = E.2.2.2.1.2)) : (g_wl E G).set a (E.2.1 + a, .inl (cA, h_z G a, .inl g)) = g_wl E (s_a G a g) := by
  have ea : h_a (s_a G a g) a = g := if_pos rfl
  refine wl_set h rfl ?_ ?_
  · rcases hk with ⟨h1, rfl⟩ | ⟨h1, rfl⟩
    · rw [ent_i (G := s_a G a g) h1, ea]
      rfl
    · rw [ent_z (G := s_a G a g) h1, ea]
      rfl
  · intro b hb
    have : h_a (s_a G a g) b = h_a G b := if_neg hb
    unfold g_ent
    rw [this]
    rfl
theorem g_iast (C : gCx E X cc own ret F L Mc Ms ini mL) {a : Nat} {i x : Int32} (hd : decode cc pc = .ok (.iastore, 1)) (hg : (a < h_n G ∧ h_k G a = 11) ∧ vp_in i (h_z G a)) (kk : gV E X q n (s_e G a i.toNatClampNeg x) (pc + 1) lv st) : gV E X q n G pc lv (.int x :: .int i :: .ref (E.2.1 + a) :: st) := by
  obtain ⟨p, e, R, s, m, args, below, meth, c, Q, nL⟩ := X
  intro H locs ls hW hS hl
  have he : (g_wl E G)[a]? = some (E.2.1 + a, .inl (E.2.2.2.1.1, h_z G a, .inl (h_a G a))) := by rw [wl_get hg.1.1, ent_i hg.1.2]
  refine W.iast C.1 C.2.1 (hW.1 a _ he) ((C.2.2.2.2.2.1.1.2 0 _ rfl).1 (h_z G a) (fun j => .int (h_a G a j))) (fun z => by cases z) (by show ¬ (i < 0 ∨ (arrV _ _ _).slots.size ≤ _); rw [arrV_size]; exact hg.2) rfl rfl hd fun H1 e1 z oq => ?_
  refine kk H1 _ ls ⟨?_, by rw [z, hW.2]; rfl⟩ (hS.put z oq (by show E.2.1 ≤ E.2.1 + a; omega)) hl
  have hs : g_wl E (s_e G a i.toNatClampNeg x) = _ := (wl_arr (E := E) (g := upd (h_a G a) i.toNatClampNeg x) hg.1.1 (Or.inl ⟨hg.1.2, rfl⟩)).symm
  rw [hs]
  refine hW.1.set (wl_D E G) he ?_ oq
  show H1[E.2.1 + a]? = some (vp_cell _ _)
  rw [e1]
  rw [vp_cell_i, vp_cell_i, arrV_store]
  congr 2
  funext j
  by_cases hj : j = i.toNatClampNeg
  · subst hj
    simp [updV, upd]
  · simp [updV, upd, hj]
theorem g_zast (C : gCx E X cc own ret F L Mc Ms ini mL) {a : Nat} {i x : Int32} (hd : decode cc pc = .ok (.bastore, 1)) (hg : (a < h_n G ∧ h_k G a = 12) ∧ vp_in i (h_z G a)) (hx : vp_nar .boolean x = x) (kk : gV E X q n (s_e G a i.toNatClampNeg x) (pc + 1) lv st) : gV E X q n G pc lv (.int x :: .int i :: .ref (E.2.1 + a) :: st) := by
  obtain ⟨p, e, R, s, m, args, below, meth, c, Q, nL⟩ := X
  intro H locs ls hW hS hl
  have he : (g_wl E G)[a]? = some (E.2.1 + a, .inl (E.2.2.2.1.2, h_z G a, .inl (h_a G a))) := by rw [wl_get hg.1.1, ent_z hg.1.2]
  refine W.zast C.1 C.2.1 (hW.1 a _ he) ((C.2.2.2.2.2.1.1.2 1 _ rfl).1 (h_z G a) (fun j => .int (h_a G a j))) (fun z => by cases z) (by show ¬ (i < 0 ∨ (arrV _ _ _).slots.size ≤ _); rw [arrV_size]; exact hg.2) rfl rfl hd fun H1 e1 z oq => ?_
  refine kk H1 _ ls ⟨?_, by rw [z, hW.2]; rfl⟩ (hS.put z oq (by show E.2.1 ≤ E.2.1 + a; omega)) hl
  have hs : g_wl E (s_e G a i.toNatClampNeg x) = _ := (wl_arr (E := E) (g := upd (h_a G a) i.toNatClampNeg x) hg.1.1 (Or.inr ⟨hg.1.2, rfl⟩)).symm
  rw [hs]
  refine hW.1.set (wl_D E G) he ?_ oq
  show H1[E.2.1 + a]? = some (vp_cell _ _)
  rw [e1]
  rw [vp_cell_i, vp_cell_i, arrV_store]
  have hx' : narrow .boolean (.int x) = .int x := congrArg Value.int (show (x &&& 1 : Int32) = x from hx)
  congr 2
  funext j
  by_cases hj : j = i.toNatClampNeg
  · subst hj
    simp [updV, upd, hx']
  · simp [updV, upd, hj]
end GH
end
section
/-! ===== contracts, calls, returns, making, copying ===== -/
def gPc (E : EE) (av : List Value) (G : Hp) : Array Value → State → Prop := fun v U => v = av.toArray ∧ gWd E G U.heap ∧ gKn E U
def gQc (E : EE) (rv : Option Value) (G' : Hp) : Array Value → State → Outcome → State → Prop := fun _ st oc t => oc = .returned rv ∧ gWd E G' t.heap ∧ va_F (fun q => E.2.1 ≤ q) st t
/-- method y, from the picture G with the arguments av, answers rv and leaves the picture G' -/
def gCt (E : EE) (y : MethodName) (cc : ByteArray) (mL : Nat) (ret : Option FieldType) (F L Mc Ms : Nat) (av : List Value) (G : Hp) (rv : Option Value) (G' : Hp) : Prop :=
  Met E.1 y (Cond.code y cc mL ret :: TB) { frames := F, cells := Mc, slots := Ms, locals := L } (gPc E av G) (gQc E rv G') Mc Ms (fun q => E.2.1 ≤ q)
theorem gPc_blind (E : EE) (av : List Value) (G : Hp) : FrameBlind (gPc E av G) := fun a U g mk h => ⟨h.1, h.2.1, gKn.same rfl rfl h.2.2⟩
theorem lvp_of {ls : Array Slot} {nL : Nat} {l : List (Nat × Value)} {lv : List (Option Value)} (h : lv_has ls nL l) (hs : ∀ (i : Nat) (v : Value), lv[i]? = some (some v) → (i, v) ∈ l) : lvp ls nL lv := ⟨h.1, h.2.1, fun i v hv => h.2.2 (i, v) (hs i v hv)⟩
/-- the places of a list of locals all stand in another list: checked by running -/
def lve : List (Option Value) → Nat → List (Nat × Value) → Prop
  | [], _, _ => True
  | none :: t, i, l => lve t (i + 1) l
  | some v :: t, i, l => l.head? = some (i, v) ∧ lve t (i + 1) l.tail
theorem lve_get : ∀ (t : List (Option Value)) (i : Nat) (l : List (Nat × Value)), lve t i l → ∀ (j : Nat) (v : Value), t[j]? = some (some v) → (i + j, v) ∈ l
  | [], i, l, _, j, v, h => by simp at h
  | none :: t, i, l, h, 0, v, hv => by simp at hv
  | some w :: t, i, l, h, 0, v, hv => by
    simp only [List.getElem?_cons_zero, Option.some.injEq] at hv
    subst hv
    exact List.mem_of_mem_head? h.1
  | none :: t, i, l, h, j + 1, v, hv => by
    have h2 := lve_get t (i + 1) l h j v (by simpa using hv)
    rwa [show i + 1 + j = i + (j + 1) by omega] at h2
  | some w :: t, i, l, h, j + 1, v, hv => by
    have h2 := lve_get t (i + 1) l.tail h.2 j v (by simpa using hv)
    rw [show i + 1 + j = i + (j + 1) by omega] at h2
    exact List.mem_of_mem_tail h2
theorem gCt_of {E : EE} {y : MethodName} {cc : ByteArray} {mL : Nat} {ret : Option FieldType} {F L Mc Ms : Nat} {av : List Value} {G : Hp} {rv : Option Value} {G' : Hp} {own : String} {ini : Bool} (lv0 : List (Option Value))
    (hy : plainName y.cls = true) (hown : y.cls = own) (hini : ini = true → y.name = "<init>") (hlen : (lg_sl av).length ≤ mL) (h0 : lve lv0 0 (lv_args 0 av))
    (body : ∀ X : CT, gCx E X cc own ret F L Mc Ms ini mL → gRet E X cc ret Mc Ms rv G' → gV E X 0 0 G 0 lv0 []) : gCt E y cc mL ret F L Mc Ms av G rv G' := by
  refine Met.ofW (cc := cc) (maxL := mL) (ret := ret) hy rfl ?_
  intro p e s m args below meth c s₁ B hml hv
  obtain ⟨rfl, hW, hK⟩ := hv
  have hts := atoms_spec (ws := Cond.code y cc mL ret :: TB) B.pre
  have hl := lv_entry av (n := mL) hlen
  rw [lg_entry_eq]
  generalize (lg_sl av ++ List.replicate (mL - (lg_sl av).length) Slot.unset).toArray = ls at hl ⊢
  have hb := B.bytes
  refine body (p, e, _, s, m, av.toArray, below, meth, c, _, mL) ⟨B.exec, B.bytes, ⟨hml, rfl⟩, by rw [← hown]; exact findClass_of_methodNamed B.named, fun w hw => hts w (List.mem_cons_of_mem _ hw), hK, ⟨Nat.le_refl _, Nat.le_refl _, Nat.le_refl _, Nat.le_refl _⟩, B.notSynchronized, B.returns, fun h => (name_of_methodNamed B.named B.method).1.trans (hini h)⟩ ?_ s.heap [] ls hW va_S.rf (lvp_of hl (fun i v hv => by have := lve_get _ _ _ h0 i v hv; rwa [Nat.zero_add] at this))
  intro pc lv hm H locs ls' hWd hS hl'
  match rv, hm with
  | none, ⟨hd, hrt⟩ => exact W.vret B.exec hb (B.returns.trans hrt) (fun t ht hW2 => ⟨rfl, by rw [ht]; exact hWd, hS.F ht⟩) hS.2.2 hd B.notSynchronized
  | some (.int v), ⟨hd, ty, hrt, hnr⟩ => exact W.zret (v := v) B.exec hb (B.returns.trans hrt) hnr (fun t ht hW2 => ⟨rfl, by rw [ht]; exact hWd, hS.F ht⟩) hS.2.2 hd B.notSynchronized
  | some (.long v), ⟨hd, hrt⟩ => exact W.lret (v := v) B.exec hb (B.returns.trans hrt) (fun t ht hW2 => ⟨rfl, by rw [ht]; exact hWd, hS.F ht⟩) hS.2.2 hd B.notSynchronized
  | some (.ref v), ⟨hd, t, hrt⟩ => exact W.aret (v := .ref v) B.exec hb (B.returns.trans hrt) (Or.inl ⟨t, rfl⟩) (Or.inr ⟨v, rfl⟩) (fun t ht hW2 => ⟨rfl, by rw [ht]; exact hWd, hS.F ht⟩) hS.2.2 hd B.notSynchronized
section GC
variable {E : EE} {X : CT} {cc : ByteArray} {own : String} {ret : Option FieldType} {F L Mc Ms : Nat} {ini : Bool} {mL : Nat} {q n : Nat} {G : Hp} {pc : Nat} {lv : List (Option Value)} {st : List Value}
theorem gIn {y : MethodName} {cc : ByteArray} {mL : Nat} {ret : Option FieldType} (h : Cond.code y cc mL ret ∈ TB) : GoodIn TB (Cond.code y cc mL ret :: TB) := fun w hw => (List.mem_cons.mp hw).elim (fun e => by rw [e]; exact ⟨h, good_of_word (tb_good _ h)⟩) (fun hw => ⟨hw, good_of_word (tb_good _ hw)⟩)
/-- behind a call -/
theorem g_after {y : MethodName} {G' : Hp} {rv : Option Value} {p : Program} {e : Env} {R : Room} {s : State} {m : MethodId} {args : Array Value} {below : List Frame} {meth : Method} {c : Code} {Q : State → Prop} {nL mc ms : Nat} {H : Heap} {locs : List Loc} {ls : Array Slot} {st0 : List Value} {a : Array Value}
    (hr : va_Run p E.1 e R s m args below meth c H locs q n mc ms (F0 m pc ls st0) st (gQc E rv G' a) (fun q => E.2.1 ≤ q)) (hS : va_S (fun q => E.2.1 ≤ q) s.heap H locs) (hl : lvp ls nL lv)
    (kk : gV E (p, e, R, s, m, args, below, meth, c, Q, nL) (q + mc) (n + ms) G' (pc + 3) lv (rv.toList ++ st)) : W p E.1 e R s m args below meth c H locs q n Q (F0 m pc ls st0) := by
  intro T hT X
  obtain ⟨v, st₀, t, T', L, h0, X', hL, e1, e2, ⟨hv, hWd, hF⟩, stp⟩ := hr T hT X
  cases hv
  have hz : H.size ≤ t.heap.size := by rw [← h0]; exact hF.1
  obtain ⟨t2, a1, b1⟩ := kk t.heap (locs ++ L) ls hWd ⟨Nat.le_trans hS.1 hz, fun x h1 h2 => by
      rw [hF.2 x (by rw [h0]; exact Nat.lt_of_lt_of_le h1 hS.1) h2, h0]
      exact hS.2.1 x h1 h2, fun x hx => by
      rcases List.mem_append.mp hx with h | h
      · exact hS.2.2 x h
      · exact hL x h⟩ hl T' e1 X'
  exact ⟨t2, stp t2 a1, b1⟩
/-- what a call's names must be: how many arguments, no method handle -/
def CN (y : MethodName) (na : Nat) : Prop := y.cls ≠ "java/lang/invoke/MethodHandle" ∧ y.cls ≠ "java/lang/invoke/VarHandle" ∧ (parseMethodDescriptor y.desc).map (fun d => d.parameters.length) = some na
theorem g_invV (C : gCx E X cc own ret F L Mc Ms ini mL) {idx na ci a F' L' Mc' Ms' mL' : Nat} {y : MethodName} {cc' : ByteArray} {ret' : Option FieldType} {As : List Value} {rv : Option Value} {G' : Hp} {T : u_T} {N : Nat}
    (hM : gCt E y cc' mL' ret' F' L' Mc' Ms' (.ref (E.2.1 + a) :: As) G rv G')
    (hc : vwCl[ci]? = some (y.cls, T, N)) (hci : ci < 11) (hg : a < h_n G ∧ h_k G a = ci)
    (h1 : Cond.methodLink own idx y ∈ TB) (h2 : Cond.instanceMethod y ∈ TB) (h3 : Cond.selects y.cls y y ∈ TB) (h4 : Cond.initialized y.cls ∈ TB) (h5 : Cond.code y cc' mL' ret' ∈ TB) (hn : CN y na) (hna : As.length = na)
    (hR : F' + 1 ≤ F ∧ 8 + (mL' + 11) + L' ≤ L ∧ q + Mc' ≤ Mc ∧ n + Ms' ≤ Ms) (hW : (st.map fun v => v.category).sum ≤ 8) {st0 : List Value} (hst : st0 = As.reverse ++ .ref (E.2.1 + a) :: st) (hd : decode cc pc = .ok (.invokevirtual idx, 3))
    (kk : gV E X (q + Mc') (n + Ms') G' (pc + 3) lv (rv.toList ++ st)) : gV E X q n G pc lv st0 := by
  obtain ⟨p, e, R, s, m, args, below, meth, c, Q, nL⟩ := X
  intro H locs ls hWd hS hl
  subst hst
  obtain ⟨C1, C2, C3, C4, C5, C6, C7, C8, C9, C10⟩ := C
  have he : (g_wl E G)[a]? = some (E.2.1 + a, .inr (ci, f_go (f_v E.2.1 G a) (fty ci) 0)) := by rw [wl_get hg.1, ent_o hg.2 hci]
  have hlen : ∀ sig, parseMethodDescriptor y.desc = some sig → na = sig.parameters.length := fun sig hsig => by
    have h := hn.2.2
    rw [hsig] at h
    exact (Option.some.inj h).symm
  refine g_after (y := y) (va_runV (Ts := TB) (C := y.cls) (own := own) ⟨C1, C2, C3.1, C4, C5⟩ hM ⟨⟨rfl, rfl, Nat.le_trans hR.1 C7.1, Nat.le_trans hR.2.1 C7.2.1, pay_in C5 (gIn h5), List.mem_cons_self, C5 _ h5, C5 _ h4, ⟨hn.1, hn.2.1⟩, hlen, C5 _ h1⟩, C5 _ h2, C5 _ h3⟩ ⟨gPc_blind _ _ _, va_recv C6.1 hWd.1 hc he, fun U hU hWm => ⟨rfl, by rw [hU]; exact hWd, gKn.warm hS hU hWm C6⟩⟩ rfl hna hl.1 rfl (lv_room hW) hd ⟨Nat.le_trans hR.2.2.1 C7.2.2.1, Nat.le_trans hR.2.2.2 C7.2.2.2⟩) hS hl kk
theorem g_invS (C : gCx E X cc own ret F L Mc Ms ini mL) {idx na F' L' Mc' Ms' mL' : Nat} {y : MethodName} {cc' : ByteArray} {ret' : Option FieldType} {As : List Value} {rv : Option Value} {G' : Hp}
    (hM : gCt E y cc' mL' ret' F' L' Mc' Ms' As G rv G')
    (h1 : Cond.methodLink own idx y ∈ TB) (h2 : Cond.static y ∈ TB) (h4 : Cond.initialized y.cls ∈ TB) (h5 : Cond.code y cc' mL' ret' ∈ TB) (hn : CN y na) (hna : As.length = na)
    (hR : F' + 1 ≤ F ∧ 8 + (mL' + 11) + L' ≤ L ∧ q + Mc' ≤ Mc ∧ n + Ms' ≤ Ms) (hW : (st.map fun v => v.category).sum ≤ 8) {st0 : List Value} (hst : st0 = As.reverse ++ st) (hd : decode cc pc = .ok (.invokestatic idx, 3))
    (kk : gV E X (q + Mc') (n + Ms') G' (pc + 3) lv (rv.toList ++ st)) : gV E X q n G pc lv st0 := by
  obtain ⟨p, e, R, s, m, args, below, meth, c, Q, nL⟩ := X
  intro H locs ls hWd hS hl
  subst hst
  obtain ⟨C1, C2, C3, C4, C5, C6, C7, C8, C9, C10⟩ := C
  have hlen : ∀ sig, parseMethodDescriptor y.desc = some sig → na = sig.parameters.length := fun sig hsig => by
    have h := hn.2.2
    rw [hsig] at h
    exact (Option.some.inj h).symm
  refine g_after (y := y) (va_runS (Ts := TB) (own := own) ⟨C1, C2, C3.1, C4, C5⟩ hM ⟨⟨rfl, rfl, Nat.le_trans hR.1 C7.1, Nat.le_trans hR.2.1 C7.2.1, pay_in C5 (gIn h5), List.mem_cons_self, C5 _ h5, C5 _ h4, ⟨hn.1, hn.2.1⟩, hlen, C5 _ h1⟩, C5 _ h2⟩ ⟨gPc_blind _ _ _, fun U hU hWm => ⟨rfl, by rw [hU]; exact hWd, gKn.warm hS hU hWm C6⟩⟩ rfl hna hl.1 rfl (lv_room hW) hd ⟨Nat.le_trans hR.2.2.1 C7.2.2.1, Nat.le_trans hR.2.2.2 C7.2.2.2⟩) hS hl kk
theorem g_invSN (C : gCx E X cc own ret F L Mc Ms ini mL) {idx na F' L' Mc' Ms' mL' : Nat} {y : MethodName} {cc' : ByteArray} {ret' : Option FieldType} {As : List Value} {rv : Option Value} {G' : Hp} {host : String}
    (hM : gCt E y cc' mL' ret' F' L' Mc' Ms' As G rv G')
    (h1 : (own, idx, y, host) ∈ nwL) (h2 : Cond.static y ∈ TB) (h4 : Cond.initialized y.cls ∈ TB) (h5 : Cond.code y cc' mL' ret' ∈ TB) (hn : CN y na) (hna : As.length = na)
    (hR : F' + 1 ≤ F ∧ 8 + (mL' + 11) + L' ≤ L ∧ q + Mc' ≤ Mc ∧ n + Ms' ≤ Ms) (hW : (st.map fun v => v.category).sum ≤ 8) {st0 : List Value} (hst : st0 = As.reverse ++ st) (hd : decode cc pc = .ok (.invokestatic idx, 3))
    (kk : gV E X (q + Mc') (n + Ms') G' (pc + 3) lv (rv.toList ++ st)) : gV E X q n G pc lv st0 := by
  obtain ⟨p, e, R, s, m, args, below, meth, c, Q, nL⟩ := X
  intro H locs ls hWd hS hl
  subst hst
  obtain ⟨C1, C2, C3, C4, C5, C6, C7, C8, C9, C10⟩ := C
  refine g_after (y := y) (va_runSN (Ts := TB) (own := own) ⟨C1, C2, C3.1, C4, C5⟩ hM ⟨va_cnB na C5 (gIn h5) rfl rfl rfl (C6.2.1 _ h1) (C5 _ h4) hn ⟨Nat.le_trans hR.1 C7.1, Nat.le_trans hR.2.1 C7.2.1⟩, C5 _ h2, trivial⟩ ⟨gPc_blind _ _ _, fun U hU hWm => ⟨rfl, by rw [hU]; exact hWd, gKn.warm hS hU hWm C6⟩⟩ rfl hna hl.1 rfl (lv_room hW) hd ⟨Nat.le_trans hR.2.2.1 C7.2.2.1, Nat.le_trans hR.2.2.2 C7.2.2.2⟩) hS hl kk
theorem g_invI (C : gCx E X cc own ret F L Mc Ms ini mL) {idx na a F' L' Mc' Ms' mL' : Nat} {y : MethodName} {cc' : ByteArray} {As : List Value} {G' : Hp}
    (hM : gCt E y cc' mL' none F' L' Mc' Ms' (.ref (E.2.1 + a) :: As) G none G')
    (h1 : Cond.methodLink own idx y ∈ TB) (h2 : Cond.instanceMethod y ∈ TB) (h4 : Cond.initialized y.cls ∈ TB) (h5 : Cond.code y cc' mL' none ∈ TB) (hy : y.name = "<init>") (hn : CN y na) (hna : As.length = na)
    (hR : F' + 1 ≤ F ∧ 8 + (mL' + 11) + L' ≤ L ∧ q + Mc' ≤ Mc ∧ n + Ms' ≤ Ms) (hW : (st.map fun v => v.category).sum ≤ 8) {st0 : List Value} (hst : st0 = As.reverse ++ .ref (E.2.1 + a) :: st) (hd : decode cc pc = .ok (.invokespecial idx, 3))
    (kk : gV E X (q + Mc') (n + Ms') G' (pc + 3) lv st) : gV E X q n G pc lv st0 := by
  obtain ⟨p, e, R, s, m, args, below, meth, c, Q, nL⟩ := X
  intro H locs ls hWd hS hl
  subst hst
  obtain ⟨C1, C2, C3, C4, C5, C6, C7, C8, C9, C10⟩ := C
  have hlen : ∀ sig, parseMethodDescriptor y.desc = some sig → na = sig.parameters.length := fun sig hsig => by
    have h := hn.2.2
    rw [hsig] at h
    exact (Option.some.inj h).symm
  refine g_after (y := y) (va_runI (Ts := TB) (own := own) ⟨C1, C2, C3.1, C4, C5⟩ hM ⟨⟨rfl, rfl, Nat.le_trans hR.1 C7.1, Nat.le_trans hR.2.1 C7.2.1, pay_in C5 (gIn h5), List.mem_cons_self, C5 _ h5, C5 _ h4, ⟨hn.1, hn.2.1⟩, hlen, C5 _ h1⟩, hy, C5 _ h2⟩ ⟨gPc_blind _ _ _, fun U hU hWm => ⟨rfl, by rw [hU]; exact hWd, gKn.warm hS hU hWm C6⟩⟩ rfl hna hl.1 rfl (lv_room hW) hd ⟨Nat.le_trans hR.2.2.1 C7.2.2.1, Nat.le_trans hR.2.2.2 C7.2.2.2⟩) hS hl kk
theorem g_invIN (C : gCx E X cc own ret F L Mc Ms ini mL) {idx na a F' L' Mc' Ms' mL' : Nat} {y : MethodName} {cc' : ByteArray} {As : List Value} {G' : Hp} {host : String}
    (hM : gCt E y cc' mL' none F' L' Mc' Ms' (.ref (E.2.1 + a) :: As) G none G')
    (h1 : (own, idx, y, host) ∈ nwL) (h2 : Cond.instanceMethod y ∈ TB) (h4 : Cond.initialized y.cls ∈ TB) (h5 : Cond.code y cc' mL' none ∈ TB) (hy : y.name = "<init>") (hn : CN y na) (hna : As.length = na)
    (hR : F' + 1 ≤ F ∧ 8 + (mL' + 11) + L' ≤ L ∧ q + Mc' ≤ Mc ∧ n + Ms' ≤ Ms) (hW : (st.map fun v => v.category).sum ≤ 8) {st0 : List Value} (hst : st0 = As.reverse ++ .ref (E.2.1 + a) :: st) (hd : decode cc pc = .ok (.invokespecial idx, 3))
    (kk : gV E X (q + Mc') (n + Ms') G' (pc + 3) lv st) : gV E X q n G pc lv st0 := by
  obtain ⟨p, e, R, s, m, args, below, meth, c, Q, nL⟩ := X
  intro H locs ls hWd hS hl
  subst hst
  obtain ⟨C1, C2, C3, C4, C5, C6, C7, C8, C9, C10⟩ := C
  refine g_after (y := y) (va_runIN (Ts := TB) (own := own) ⟨C1, C2, C3.1, C4, C5⟩ hM ⟨va_cnB na C5 (gIn h5) rfl rfl rfl (C6.2.1 _ h1) (C5 _ h4) hn ⟨Nat.le_trans hR.1 C7.1, Nat.le_trans hR.2.1 C7.2.1⟩, hy, C5 _ h2⟩ ⟨gPc_blind _ _ _, fun U hU hWm => ⟨rfl, by rw [hU]; exact hWd, gKn.warm hS hU hWm C6⟩⟩ rfl hna hl.1 rfl (lv_room hW) hd ⟨Nat.le_trans hR.2.2.1 C7.2.2.1, Nat.le_trans hR.2.2.2 C7.2.2.2⟩) hS hl kk
theorem g_vret (hR : gRet E X cc none q n none G) (hd : decode cc pc = .ok (.return_, 1)) : gV E X q n G pc lv [] := hR pc lv ⟨hd, rfl⟩
theorem g_iret {v : Int32} (hR : gRet E X cc (some .int) q n (some (.int v)) G) (hd : decode cc pc = .ok (.ireturn, 1)) : gV E X q n G pc lv [.int v] := hR pc lv ⟨hd, .int, rfl, rfl⟩
theorem g_zret {v : Int32} (hR : gRet E X cc (some .boolean) q n (some (.int v)) G) (hv : v = 0 ∨ v = 1) (hd : decode cc pc = .ok (.ireturn, 1)) : gV E X q n G pc lv [.int v] := hR pc lv ⟨hd, .boolean, rfl, by rcases hv with rfl | rfl <;> rfl⟩
theorem g_lret {v : Int64} (hR : gRet E X cc (some .long) q n (some (.long v)) G) (hd : decode cc pc = .ok (.lreturn, 1)) : gV E X q n G pc lv [.long v] := hR pc lv ⟨hd, rfl⟩
theorem g_aret {v : Nat} {t : String} (hR : gRet E X cc (some (.object t)) q n (some (.ref v)) G) (hd : decode cc pc = .ok (.areturn, 1)) : gV E X q n G pc lv [.ref v] := hR pc lv ⟨hd, t, rfl⟩
/-! ===== Math, arraycopy, making ===== -/
theorem g_max (C : gCx E X cc own ret F L Mc Ms ini mL) {idx : Nat} {x y : Int32} (h1 : Cond.methodLink own idx Lib.Math.max.name ∈ TB) (h2 : Cond.static Lib.Math.max.name ∈ TB) (h3 : Cond.initialized "java/lang/Math" ∈ TB) (h4 : Cond.code Lib.Math.max.name Lib.Math.max.code 2 (some .int) ∈ TB) (hF : 1 ≤ F) (hL : (st.map fun v => v.category).sum + 13 ≤ L) (hq : q ≤ Mc ∧ n ≤ Ms) (hd : decode cc pc = .ok (.invokestatic idx, 3)) (kk : gV E X q n G (pc + 3) lv (.int (if x < y then y else x) :: st)) : gV E X q n G pc lv (.int y :: .int x :: st) := by
  obtain ⟨p, e, R, s, m, args, below, meth, c, Q, nL⟩ := X
  intro H locs ls hWd hS hl
  obtain ⟨C1, C2, C3, C4, C5, C6, C7, C8, C9, C10⟩ := C
  exact va_mmax C1 C2 (C3.1.trans hl.1.symm) C4 (C5 _ h1) (C5 _ h2) (C5 _ h3) (C5 _ h4) (Nat.le_trans hF C7.1) (Nat.le_trans hL C7.2.1) (Nat.le_trans hq.1 C7.2.2.1) (Nat.le_trans hq.2 C7.2.2.2) hd (kk H locs ls hWd hS hl)
theorem g_min (C : gCx E X cc own ret F L Mc Ms ini mL) {idx : Nat} {x y : Int32} (h1 : Cond.methodLink own idx Lib.Math.min.name ∈ TB) (h2 : Cond.static Lib.Math.min.name ∈ TB) (h3 : Cond.initialized "java/lang/Math" ∈ TB) (h4 : Cond.code Lib.Math.min.name Lib.Math.min.code 2 (some .int) ∈ TB) (hF : 1 ≤ F) (hL : (st.map fun v => v.category).sum + 13 ≤ L) (hq : q ≤ Mc ∧ n ≤ Ms) (hd : decode cc pc = .ok (.invokestatic idx, 3)) (kk : gV E X q n G (pc + 3) lv (.int (if y < x then y else x) :: st)) : gV E X q n G pc lv (.int y :: .int x :: st) := by
  obtain ⟨p, e, R, s, m, args, below, meth, c, Q, nL⟩ := X
  intro H locs ls hWd hS hl
  obtain ⟨C1, C2, C3, C4, C5, C6, C7, C8, C9, C10⟩ := C
  exact va_mmin C1 C2 (C3.1.trans hl.1.symm) C4 (C5 _ h1) (C5 _ h2) (C5 _ h3) (C5 _ h4) (Nat.le_trans hF C7.1) (Nat.le_trans hL C7.2.1) (Nat.le_trans hq.1 C7.2.2.1) (Nat.le_trans hq.2 C7.2.2.2) hd (kk H locs ls hWd hS hl)
theorem g_objInit (C : gCx E X cc own ret F L Mc Ms ini mL) {idx a : Nat} (h1 : Cond.methodLink own idx Lib.objectInit ∈ TB) (h2 : Cond.instanceMethod Lib.objectInit ∈ TB) (h3 : Cond.code Lib.objectInit ⟨#[0xb1]⟩ 1 none ∈ TB) (hF : 1 ≤ F) (hL : (st.map fun v => v.category).sum + 12 ≤ L) (hd : decode cc pc = .ok (.invokespecial idx, 3)) (kk : gV E X q n G (pc + 3) lv st) : gV E X q n G pc lv (.ref a :: st) := by
  obtain ⟨p, e, R, s, m, args, below, meth, c, Q, nL⟩ := X
  intro H locs ls hWd hS hl
  obtain ⟨C1, C2, C3, C4, C5, C6, C7, C8, C9, C10⟩ := C
  refine W.objInit C1 C2 C4 (C5 _ h1) (C5 _ h2) (C5 _ h3) rfl (hl.1.trans C3.1.symm) rfl hd (Nat.le_trans hF C7.1) (by show 2 * 0 + _ + 12 ≤ _; exact Nat.le_trans (by omega) C7.2.1) ?_
  exact kk H locs ls hWd hS hl
theorem g_new (C : gCx E X cc own ret F L Mc Ms ini mL) {idx ci N : Nat} {C0 : String} {T : u_T} (t0 : Nat → FieldType) (hc : vwCl[ci]? = some (C0, T, N)) (hci : ci < 11) (h2 : ∀ w ∈ u_ws C0 T N, w ∈ TB) (h3 : ∀ j, j < N → parseFieldDescriptor (T j).2.2.1 = some (t0 j)) (hlen : (fty ci).length = N) (ht : ∀ j t, (fty ci)[j]? = some t → defaultValue (t0 j) = if t = 0 then .int 0 else if t = 1 then .long 0 else .null) (h4 : Cond.classLink own idx C0 ∈ TB) (h5 : Cond.instantiable C0 N ∈ TB) (h6 : Cond.initialized C0 ∈ TB) (hq : q + 1 ≤ Mc ∧ n + N ≤ Ms) (hd : decode cc pc = .ok (.new idx, 3)) (kk : gV E X (q + 1) (n + N) (s_new G ci) (pc + 3) lv (.ref (E.2.1 + h_n G) :: st)) : gV E X q n G pc lv st := by
  obtain ⟨p, e, R, s, m, args, below, meth, c, Q, nL⟩ := X
  intro H locs ls hWd hS hl
  obtain ⟨C1, C2, C3, C4, C5, C6, C7, C8, C9, C10⟩ := C
  have hKn := C6.1.1 ci _ hc
  refine W.newcK C1 C2 C4 (C5 _ h4) (C5 _ h5) (C5 _ h6) rfl hd (Nat.le_trans hq.1 C7.2.2.1) (Nat.le_trans hq.2 C7.2.2.2) hKn.2.1 rfl fun H1 kC hkC e1 z1 o1 => ?_
  have hk : ∀ (k : Nat) (x : Nat × va_E), (g_wl E G)[k]? = some x → H1[x.1]? = H[x.1]? := fun k x hx => o1 x.1 ((hWd.1 k x hx).lt)
  have hw : g_wl E G ++ [(E.2.1 + h_n G, .inr (ci, f_go (f_v E.2.1 (s_new G ci) (h_n G)) (fty ci) 0))] = g_wl E (s_new G ci) := by
    refine wl_push rfl ?_ ?_
    · rw [ent_o (show h_k (s_new G ci) (h_n G) = ci from if_pos rfl) hci]
    · intro b hb
      have hne : ¬ b = G.1 := by have : b < G.1 := hb; omega
      have k1 : h_k (s_new G ci) b = h_k G b := if_neg hne
      have k2 : ∀ j, h_i (s_new G ci) b j = h_i G b j := fun j => congrFun (if_neg hne : h_i (s_new G ci) b = h_i G b) j
      have k3 : ∀ j, h_l (s_new G ci) b j = h_l G b j := fun j => congrFun (if_neg hne : h_l (s_new G ci) b = h_l G b) j
      have k4 : ∀ j, h_r (s_new G ci) b j = h_r G b j := fun j => congrFun (if_neg hne : h_r (s_new G ci) b = h_r G b) j
      unfold g_ent
      rw [k1, f_go_congr (g' := f_v E.2.1 (s_new G ci) b) (g := f_v E.2.1 G b) (fun t j => by unfold f_v; rw [k2, k3, k4])]
      rfl
  suffices hP9 : va_P E.2.2.1 vwCl (g_wl E (s_new G ci)) H1 by
    have hfin := kk H1 locs ls ⟨hP9, by rw [z1, hWd.2]; show _ = E.2.1 + (G.1 + 1); rfl⟩ ⟨Nat.le_trans hS.1 (by omega), fun x g1 g2 => (o1 x (Nat.lt_of_lt_of_le g1 hS.1)).trans (hS.2.1 x g1 g2), hS.2.2⟩ hl
    rw [← hWd.2] at hfin
    exact hfin
  rw [← hw]
  refine (hWd.1.kept hk).app (fun k x hx => ?_)
  have hz : k < 1 := (List.getElem?_eq_some_iff.mp hx).1
  rw [show k = 0 by omega] at hx
  cases hx
  refine ⟨_, hc, ?_⟩
  have hb := u_born t0 C5 h2 hKn hkC e1 h3
  rw [hWd.2] at hb
  refine hb.to (fun j hj => ?_)
  have hj2 : j < (fty ci).length := by rw [hlen]; exact hj
  have hj3 : (fty ci)[j]? = some (fty ci)[j] := List.getElem?_eq_getElem hj2
  have e2 : vp_V (f_go (f_v E.2.1 (s_new G ci) (h_n G)) (fty ci) 0) j = f_v E.2.1 (s_new G ci) (h_n G) (fty ci)[j] j := by
    unfold vp_V
    rw [List.getD_eq_getElem?_getD, f_go_get, hj3]
    simp
  rw [e2, ht j _ hj3]
  have n2 : h_i (s_new G ci) (h_n G) j = 0 := congrFun (if_pos rfl : h_i (s_new G ci) (h_n G) = fun _ => 0) j
  have n3 : h_l (s_new G ci) (h_n G) j = 0 := congrFun (if_pos rfl : h_l (s_new G ci) (h_n G) = fun _ => 0) j
  have n4 : h_r (s_new G ci) (h_n G) j = none := congrFun (if_pos rfl : h_r (s_new G ci) (h_n G) = fun _ => none) j
  unfold f_v
  rw [n2, n3, n4]
  rfl
theorem wl_newarr {G : Hp} {kc z : Nat} {cA : ClassId} (hk : (kc = 11 ∧ cA = E.2.2.2.1.1) ∨ (kc = 12 ∧ cA = E.2.2.2.1.2)) : g_wl E G ++ [(E.2.1 + h_n G, .inl (cA, z, .inl (fun _ => 0)))] = g_wl E (s_arr G kc z) := by
  have a1 : h_a (s_arr G kc z) (h_n G) = fun _ => 0 := if_pos rfl
  have a2 : h_z (s_arr G kc z) (h_n G) = z := if_pos rfl
  have a3 : h_k (s_arr G kc z) (h_n G) = kc := if_pos rfl
  refine wl_push rfl ?_ ?_
  · rcases hk with ⟨rfl, rfl⟩ | ⟨rfl, rfl⟩
    · rw [ent_i a3, a1, a2]
    · rw [ent_z a3, a1, a2]
  · intro b hb
    have hne : ¬ b = G.1 := by have : b < G.1 := hb; omega
    have k1 : h_k (s_arr G kc z) b = h_k G b := if_neg hne
    have k2 : h_a (s_arr G kc z) b = h_a G b := if_neg hne
    have k3 : h_z (s_arr G kc z) b = h_z G b := if_neg hne
    unfold g_ent
    rw [k1, k2, k3]
    rfl
theorem g_newa (C : gCx E X cc own ret F L Mc Ms ini mL) {atype : ArrayType} {kc : Nat} {z : Int32} (hat : (atype = .int ∧ kc = 11) ∨ (atype = .boolean ∧ kc = 12)) (h1 : Cond.arrayClass (newarray.typeOf atype) ∈ TB) (hz : ¬ z < 0) (hzm : z.toNatClampNeg ≤ 1000) (hq : q + 1 ≤ Mc ∧ n + z.toNatClampNeg ≤ Ms) (hd : decode cc pc = .ok (.newarray atype, 2)) (kk : gV E X (q + 1) (n + z.toNatClampNeg) (s_arr G kc z.toNatClampNeg) (pc + 2) lv (.ref (E.2.1 + h_n G) :: st)) : gV E X q n G pc lv (.int z :: st) := by
  obtain ⟨p, e, R, s, m, args, below, meth, c, Q, nL⟩ := X
  intro H locs ls hWd hS hl
  obtain ⟨C1, C2, C3, C4, C5, C6, C7, C8, C9, C10⟩ := C
  have hby : z.toNatClampNeg * componentBytes (newarray.typeOf atype) ≤ 536870912 := by
    rcases hat with ⟨rfl, -⟩ | ⟨rfl, -⟩
    · show z.toNatClampNeg * 4 ≤ _
      omega
    · show z.toNatClampNeg * 1 ≤ _
      omega
  refine va_newaK C1 C2 (C5 _ h1) rfl hd rfl hz rfl hby (Nat.le_trans hq.1 C7.2.2.1) (Nat.le_trans hq.2 C7.2.2.2) rfl fun H1 cA e1 z1 o1 hAr hNm => ?_
  have hk : ∀ (k : Nat) (x : Nat × va_E), (g_wl E G)[k]? = some x → H1[x.1]? = H[x.1]? := fun k x hx => o1 x.1 ((hWd.1 k x hx).lt)
  have hcA : (kc = 11 ∧ cA = E.2.2.2.1.1) ∨ (kc = 12 ∧ cA = E.2.2.2.1.2) := by
    rcases hat with ⟨rfl, rfl⟩ | ⟨rfl, rfl⟩
    · exact Or.inl ⟨rfl, Option.some.inj (hNm.symm.trans (C6.1.2 0 _ rfl).2)⟩
    · exact Or.inr ⟨rfl, Option.some.inj (hNm.symm.trans (C6.1.2 1 _ rfl).2)⟩
  suffices hP9 : va_P E.2.2.1 vwCl (g_wl E (s_arr G kc z.toNatClampNeg)) H1 by
    have hfin := kk H1 locs ls ⟨hP9, by rw [z1, hWd.2]; show _ = E.2.1 + (G.1 + 1); rfl⟩ ⟨Nat.le_trans hS.1 (by omega), fun x g1 g2 => (o1 x (Nat.lt_of_lt_of_le g1 hS.1)).trans (hS.2.1 x g1 g2), hS.2.2⟩ hl
    rw [← hWd.2] at hfin
    exact hfin
  rw [← wl_newarr hcA]
  refine (hWd.1.kept hk).app (fun k x hx => ?_)
  have hz : k < 1 := (List.getElem?_eq_some_iff.mp hx).1
  rw [show k = 0 by omega] at hx
  cases hx
  show H1[E.2.1 + h_n G]? = some (vp_cell _ _)
  rw [← hWd.2, e1]
  rcases hat with ⟨rfl, rfl⟩ | ⟨rfl, rfl⟩ <;> rfl
theorem g_copy (C : gCx E X cc own ret F L Mc Ms ini mL) {idx a0 a : Nat} {sp dp z : Int32} (h1 : Cond.methodLink own idx arraycopyName ∈ TB) (h2 : Cond.native arraycopyName ∈ TB) (h3 : Cond.static arraycopyName ∈ TB) (h4 : Cond.initialized "java/lang/System" ∈ TB) (hg : (a0 < h_n G ∧ h_k G a0 = 11) ∧ (a < h_n G ∧ h_k G a = 11) ∧ (¬ sp < 0 ∧ ¬ dp < 0 ∧ ¬ z < 0) ∧ sp.toNatClampNeg + z.toNatClampNeg ≤ h_z G a0 ∧ dp.toNatClampNeg + z.toNatClampNeg ≤ h_z G a) (hF : 1 ≤ F) (hL : (st.map fun v => v.category).sum + 18 ≤ L) (hd : decode cc pc = .ok (.invokestatic idx, 3)) (kk : gV E X q n (s_a G a (va_cpy (h_a G a0) (h_a G a) sp.toNatClampNeg dp.toNatClampNeg z.toNatClampNeg)) (pc + 3) lv st) : gV E X q n G pc lv (.int z :: .int dp :: .ref (E.2.1 + a) :: .int sp :: .ref (E.2.1 + a0) :: st) := by
  obtain ⟨p, e, R, s, m, args, below, meth, c, Q, nL⟩ := X
  intro H locs ls hWd hS hl
  obtain ⟨C1, C2, C3, C4, C5, C6, C7, C8, C9, C10⟩ := C
  obtain ⟨hg0, hg1, ⟨s1, s2, s3⟩, b1, b2⟩ := hg
  have he0 : (g_wl E G)[a0]? = some (E.2.1 + a0, .inl (E.2.2.2.1.1, h_z G a0, .inl (h_a G a0))) := by rw [wl_get hg0.1, ent_i hg0.2]
  have he : (g_wl E G)[a]? = some (E.2.1 + a, .inl (E.2.2.2.1.1, h_z G a, .inl (h_a G a))) := by rw [wl_get hg1.1, ent_i hg1.2]
  have nn : ∀ z : Int32, ¬ z < 0 → z.toInt = (z.toNatClampNeg : Int) := by
    intro z hz
    have hz0 : (0 : Int) ≤ z.toInt := by
      have := Int32.not_lt.mp hz
      simpa using Int32.le_iff_toInt_le.mp this
    show z.toInt = ((z.toInt.toNat : Nat) : Int)
    omega
  intro T hT X
  have hc0 : H[E.2.1 + a0]? = some (vp_cell E.2.2.2.1.1 (h_z G a0, .inl (h_a G a0))) := hWd.1 a0 _ he0
  have hc1 : H[E.2.1 + a]? = some (vp_cell E.2.2.2.1.1 (h_z G a, .inl (h_a G a))) := hWd.1 a _ he
  obtain ⟨-, k0, hk0, cm0, hkk0⟩ := (C6.1.2 0 _ rfl).1 (h_z G a0) (fun j => .int (h_a G a0 j))
  obtain ⟨-, k1, hk1, cm1, hkk1⟩ := (C6.1.2 0 _ rfl).1 (h_z G a) (fun j => .int (h_a G a j))
  obtain ⟨vm', X', step⟩ := X.arraycopy C1 C4 (C5 _ h1) (C5 _ h2) (C5 _ h3) (C5 _ h4) (src := E.2.1 + a0) (dst := E.2.1 + a) (cs := vp_cell E.2.2.2.1.1 (h_z G a0, .inl (h_a G a0))) (cd := vp_cell E.2.2.2.1.1 (h_z G a, .inl (h_a G a))) (srcPos := sp) (destPos := dp) (n := z) (by rw [hT]; exact hc0) (by rw [hT]; exact hc1)
    (fun _ h => by cases h) (fun _ h => by cases h) (fun h => by cases h) (fun h => by cases h) hk0 hk1 hkk0 hkk1 (by simp [refKind]) s1 s2 s3
    (by rw [nn sp s1, nn z s3]; show ¬ _ > ((arrV E.2.2.2.1.1 (h_z G a0) (fun j => .int (h_a G a0 j))).slots.size : Int); rw [arrV_size]; omega)
    (by rw [nn dp s2, nn z s3]; show ¬ _ > ((arrV E.2.2.2.1.1 (h_z G a) (fun j => .int (h_a G a j))).slots.size : Int); rw [arrV_size]; omega)
    (fun vm₁ _ i hi => by
      have e : (vp_cell E.2.2.2.1.1 (h_z G a0, .inl (h_a G a0))).slots.getD (sp.toNatClampNeg + i) .null = .int (h_a G a0 (sp.toNatClampNeg + i)) := by
        show (arrV E.2.2.2.1.1 (h_z G a0) (fun j => .int (h_a G a0 j))).slots.getD _ _ = _
        rw [Array.getD_eq_getD_getElem?, arrV_read _ _ (by omega)]
        rfl
      refine ⟨?_, ?_⟩
      · rw [e]
        rfl
      · rw [e]
        exact trivial)
    (g := F0 m pc ls (.int z :: .int dp :: .ref (E.2.1 + a) :: .int sp :: .ref (E.2.1 + a0) :: st)) rfl (hl.1.trans C3.1.symm) (rest := st) rfl (by rw [C2]; exact hd) (Nat.le_trans hF C7.1) (by
      have : nativeFrameWords "java/lang/System" "arraycopy" 5 = 7 := by decide +kernel
      show 2 * 0 + _ + _ ≤ _
      have := C7.2.1
      omega)
  have e1 : copied (vp_cell E.2.2.2.1.1 (h_z G a0, .inl (h_a G a0))) (vp_cell E.2.2.2.1.1 (h_z G a, .inl (h_a G a))) sp dp z = vp_cell E.2.2.2.1.1 (h_z G a, .inl (va_cpy (h_a G a0) (h_a G a) sp.toNatClampNeg dp.toNatClampNeg z.toNatClampNeg)) := va_copied (fun z => .int z) _ _ (h_a G a0) (h_a G a) b1
  rw [e1] at X' step
  generalize hg9 : va_cpy (h_a G a0) (h_a G a) sp.toNatClampNeg dp.toNatClampNeg z.toNatClampNeg = g9 at X' step kk
  have hl9 : E.2.1 + a < H.size := (Array.getElem?_eq_some_iff.mp hc1).1
  have hheap : ((T.setVm vm').setCell (E.2.1 + a) (vp_cell E.2.2.2.1.1 (h_z G a, .inl g9))).heap = H.setIfInBounds (E.2.1 + a) (vp_cell E.2.2.2.1.1 (h_z G a, .inl g9)) := by rw [← hT]; rfl
  have oq : ∀ q : Nat, q ≠ E.2.1 + a → (H.setIfInBounds (E.2.1 + a) (vp_cell E.2.2.2.1.1 (h_z G a, .inl g9)))[q]? = H[q]? := fun q hq => by simp [Array.getElem?_setIfInBounds, Ne.symm hq]
  have hs : g_wl E (s_a G a g9) = _ := (wl_arr (E := E) (g := g9) hg1.1 (Or.inl ⟨hg1.2, rfl⟩)).symm
  obtain ⟨t, a1, b1⟩ := kk (H.setIfInBounds (E.2.1 + a) (vp_cell E.2.2.2.1.1 (h_z G a, .inl g9))) _ ls ⟨by
      rw [hs]
      exact hWd.1.set (wl_D E G) he (show (H.setIfInBounds _ _)[E.2.1 + a]? = some _ by simp [Array.getElem?_setIfInBounds, hl9]) oq, by simp [hWd.2]; rfl⟩ ⟨by simp; exact hS.1, fun q g1 g2 => by
      rw [oq q (fun e => g2 (by rw [e]; show E.2.1 ≤ E.2.1 + a; omega))]
      exact hS.2.1 q g1 g2, fun q hq => by
      rcases List.mem_append.mp hq with h | h
      · exact hS.2.2 q h
      · obtain ⟨z, -, hz⟩ := List.mem_map.mp h
        rw [← hz]
        show E.2.1 ≤ E.2.1 + a
        omega⟩ hl _ hheap X'
  exact ⟨t, step t a1, b1⟩
theorem g_ldcS (C : gCx E X cc "FavoursGoOff$Reader" ret F L Mc Ms ini mL) {idx i : Nat} {tx : String} (hi : g_six[i]? = some (idx, tx)) (hd : decode cc pc = .ok (.ldc idx, 2)) (k : gV E X q n G (pc + 2) lv (.ref (E.2.2.2.2.1 i) :: st)) : gV E X q n G pc lv st := by
  obtain ⟨p, e, R, s, m, args, below, meth, c, Q, nL⟩ := X
  intro H locs ls hW hS hl
  obtain ⟨C1, C2, C3, C4, C5, C6, C7, C8, C9, C10⟩ := C
  exact va_ldcS C1 C2 C4 (C6.2.2.1.1 i _ hi) hd (k H locs ls hW hS hl)
end GC
end
section
/-! ===== the methods as functions of the picture: how a step reads, writes, calls; none: it can't be said ===== -/
def mx (x y : Int32) : Int32 := if x < y then y else x
def mn (x y : Int32) : Int32 := if y < x then y else x
def ushrL (x : Int64) (y : Int32) : Int64 := (x.toUInt64 >>> (y.toInt64.toUInt64 &&& Int64.toUInt64 63)).toInt64
def shlL (x : Int64) (y : Int32) : Int64 := x <<< (y.toInt64 &&& 63)
/-- how often a loop may go round: more than any run needs -/
def FU : Nat := 1000000000
section CB
variable {β α : Type}
def lt (e : α) (κ : α → Option β) : Option β := κ e
def gI (G : Hp) (ci k a : Nat) (κ : Int32 → Option β) : Option β := if a < h_n G ∧ h_k G a = ci then κ (h_i G a k) else none
def gL (G : Hp) (ci k a : Nat) (κ : Int64 → Option β) : Option β := if a < h_n G ∧ h_k G a = ci then κ (h_l G a k) else none
def gR (G : Hp) (ci k a : Nat) (κ : Nat → Option β) : Option β := if a < h_n G ∧ h_k G a = ci then (match h_r G a k with
  | some r => κ r
  | none => none) else none
def pI (G : Hp) (ci k a : Nat) (v : Int32) (κ : Hp → Option β) : Option β := if a < h_n G ∧ h_k G a = ci then κ (s_i G a k v) else none
def pL (G : Hp) (ci k a : Nat) (v : Int64) (κ : Hp → Option β) : Option β := if a < h_n G ∧ h_k G a = ci then κ (s_l G a k v) else none
def pR (G : Hp) (ci k a : Nat) (v : Nat) (κ : Hp → Option β) : Option β := if a < h_n G ∧ h_k G a = ci then κ (s_r G a k (some v)) else none
def aL (G : Hp) (a : Nat) (κ : Int32 → Option β) : Option β := if a < h_n G ∧ h_k G a = 11 then κ (Int32.ofNat (h_z G a)) else none
/-- an element of an array of kind kc (11 int, 12 boolean) -/
def aI (G : Hp) (kc a : Nat) (i : Int32) (κ : Int32 → Option β) : Option β := if (a < h_n G ∧ h_k G a = kc) ∧ ¬ (i < 0 ∨ h_z G a ≤ i.toNatClampNeg) then κ (h_a G a i.toNatClampNeg) else none
def sI (G : Hp) (kc a : Nat) (i v : Int32) (κ : Hp → Option β) : Option β := if (a < h_n G ∧ h_k G a = kc) ∧ ¬ (i < 0 ∨ h_z G a ≤ i.toNatClampNeg) then κ (s_e G a i.toNatClampNeg v) else none
def nO (G : Hp) (ci : Nat) (κ : Nat → Hp → Option β) : Option β := κ (h_n G) (s_new G ci)
def nA (G : Hp) (kc : Nat) (z : Int32) (κ : Nat → Hp → Option β) : Option β := if ¬ z < 0 ∧ z.toNatClampNeg ≤ 1000 then κ (h_n G) (s_arr G kc z.toNatClampNeg) else none
def cA (G : Hp) (a0 : Nat) (sp : Int32) (a : Nat) (dp z : Int32) (κ : Hp → Option β) : Option β := if (a0 < h_n G ∧ h_k G a0 = 11) ∧ (a < h_n G ∧ h_k G a = 11) ∧ (¬ sp < 0 ∧ ¬ dp < 0 ∧ ¬ z < 0) ∧ sp.toNatClampNeg + z.toNatClampNeg ≤ h_z G a0 ∧ dp.toNatClampNeg + z.toNatClampNeg ≤ h_z G a then κ (s_a G a (va_cpy (h_a G a0) (h_a G a) sp.toNatClampNeg dp.toNatClampNeg z.toNatClampNeg)) else none
/-- calls: of a static method or a constructor; an answer, a picture, or both come back -/
def cP (o : Option α) (κ : α → Option β) : Option β := match o with
  | some x => κ x
  | none => none
def cH (o : Option (α × Hp)) (κ : α → Hp → Option β) : Option β := match o with
  | some x => κ x.1 x.2
  | none => none
/-- calls on an object of class ci -/
def vP (G : Hp) (ci a : Nat) (o : Option α) (κ : α → Option β) : Option β := if a < h_n G ∧ h_k G a = ci then cP o κ else none
def vH (G : Hp) (ci a : Nat) (o : Option (α × Hp)) (κ : α → Hp → Option β) : Option β := if a < h_n G ∧ h_k G a = ci then cH o κ else none
def dI (y : Int32) (o : Option β) : Option β := if y = 0 then none else o
def dL (y : Int64) (o : Option β) : Option β := if y = 0 then none else o
def zR (v : Int32) (o : Option β) : Option β := if v = 0 ∨ v = 1 then o else none
/-- a String constant's length, and its bytes -/
def sL (i : Nat) (κ : Int32 → Option β) : Option β := if i < 4 then κ (Int32.ofNat (g_len.getD i 0)) else none
def sC (i : Nat) (j : Int32) (κ : Int32 → Option β) : Option β := if i < 4 ∧ ¬ (j < 0 ∨ g_len.getD i 0 ≤ j.toNatClampNeg) then κ ((g_byt.getD i []).getD j.toNatClampNeg 0) else none
/-- the script -/
def xL (n : Nat) (κ : Int32 → Option β) : Option β := κ (Int32.ofNat n)
def xI (n : Nat) (xs : Nat → Int32) (i : Int32) (κ : Int32 → Option β) : Option β := if ¬ (i < 0 ∨ n ≤ i.toNatClampNeg) then κ (xs i.toNatClampNeg) else none
theorem lt_ok {e : α} {κ : α → Option β} {r : β} (h : lt e κ = some r) : ∃ x, x = e ∧ κ x = some r := ⟨e, rfl, h⟩
theorem ite_ok {c : Prop} [Decidable c] {A : Option β} {r : β} (h : (if c then A else none) = some r) : c ∧ A = some r := by
  by_cases hc : c
  · rw [if_pos hc] at h
    exact ⟨hc, h⟩
  · rw [if_neg hc] at h
    cases h
theorem iteT {γ : Type} {c : Prop} [Decidable c] {A B r : γ} (h : (if c then A else B) = r) (hc : c) : A = r := by rw [if_pos hc] at h; exact h
theorem iteF {γ : Type} {c : Prop} [Decidable c] {A B r : γ} (h : (if c then A else B) = r) (hc : ¬ c) : B = r := by rw [if_neg hc] at h; exact h
theorem gI_ok {G : Hp} {ci k a : Nat} {κ : Int32 → Option β} {r : β} (h : gI G ci k a κ = some r) : ∃ x, x = h_i G a k ∧ (a < h_n G ∧ h_k G a = ci) ∧ κ x = some r := ⟨_, rfl, ite_ok h⟩
theorem gL_ok {G : Hp} {ci k a : Nat} {κ : Int64 → Option β} {r : β} (h : gL G ci k a κ = some r) : ∃ x, x = h_l G a k ∧ (a < h_n G ∧ h_k G a = ci) ∧ κ x = some r := ⟨_, rfl, ite_ok h⟩
theorem gR_ok {G : Hp} {ci k a : Nat} {κ : Nat → Option β} {r : β} (h : gR G ci k a κ = some r) : ∃ x, ((a < h_n G ∧ h_k G a = ci) ∧ h_r G a k = some x) ∧ κ x = some r := by
  obtain ⟨h1, h2⟩ := ite_ok h
  cases hx : h_r G a k with
  | none => rw [hx] at h2; cases h2
  | some x => rw [hx] at h2; exact ⟨x, ⟨h1, rfl⟩, h2⟩
theorem pI_ok {G : Hp} {ci k a : Nat} {v : Int32} {κ : Hp → Option β} {r : β} (h : pI G ci k a v κ = some r) : ∃ G', G' = s_i G a k v ∧ (a < h_n G ∧ h_k G a = ci) ∧ κ G' = some r := ⟨_, rfl, ite_ok h⟩
theorem pL_ok {G : Hp} {ci k a : Nat} {v : Int64} {κ : Hp → Option β} {r : β} (h : pL G ci k a v κ = some r) : ∃ G', G' = s_l G a k v ∧ (a < h_n G ∧ h_k G a = ci) ∧ κ G' = some r := ⟨_, rfl, ite_ok h⟩
theorem pR_ok {G : Hp} {ci k a v : Nat} {κ : Hp → Option β} {r : β} (h : pR G ci k a v κ = some r) : ∃ G', G' = s_r G a k (some v) ∧ (a < h_n G ∧ h_k G a = ci) ∧ κ G' = some r := ⟨_, rfl, ite_ok h⟩
theorem aL_ok {G : Hp} {a : Nat} {κ : Int32 → Option β} {r : β} (h : aL G a κ = some r) : ∃ x, x = Int32.ofNat (h_z G a) ∧ (a < h_n G ∧ h_k G a = 11) ∧ κ x = some r := ⟨_, rfl, ite_ok h⟩
theorem aI_ok {G : Hp} {kc a : Nat} {i : Int32} {κ : Int32 → Option β} {r : β} (h : aI G kc a i κ = some r) : ∃ x, x = h_a G a i.toNatClampNeg ∧ ((a < h_n G ∧ h_k G a = kc) ∧ vp_in i (h_z G a)) ∧ κ x = some r := by
  have h9 := ite_ok h
  exact ⟨_, rfl, h9⟩
theorem sI_ok {G : Hp} {kc a : Nat} {i v : Int32} {κ : Hp → Option β} {r : β} (h : sI G kc a i v κ = some r) : ∃ G', G' = s_e G a i.toNatClampNeg v ∧ ((a < h_n G ∧ h_k G a = kc) ∧ vp_in i (h_z G a)) ∧ κ G' = some r := by
  have h9 := ite_ok h
  exact ⟨_, rfl, h9⟩
theorem nO_ok {G : Hp} {ci : Nat} {κ : Nat → Hp → Option β} {r : β} (h : nO G ci κ = some r) : ∃ a G', a = h_n G ∧ G' = s_new G ci ∧ κ a G' = some r := ⟨_, _, rfl, rfl, h⟩
theorem nA_ok {G : Hp} {kc : Nat} {z : Int32} {κ : Nat → Hp → Option β} {r : β} (h : nA G kc z κ = some r) : ∃ a G', a = h_n G ∧ G' = s_arr G kc z.toNatClampNeg ∧ (¬ z < 0 ∧ z.toNatClampNeg ≤ 1000) ∧ κ a G' = some r := ⟨_, _, rfl, rfl, ite_ok h⟩
theorem cA_ok {G : Hp} {a0 a : Nat} {sp dp z : Int32} {κ : Hp → Option β} {r : β} (h : cA G a0 sp a dp z κ = some r) : ∃ G', G' = s_a G a (va_cpy (h_a G a0) (h_a G a) sp.toNatClampNeg dp.toNatClampNeg z.toNatClampNeg) ∧ ((a0 < h_n G ∧ h_k G a0 = 11) ∧ (a < h_n G ∧ h_k G a = 11) ∧ (¬ sp < 0 ∧ ¬ dp < 0 ∧ ¬ z < 0) ∧ sp.toNatClampNeg + z.toNatClampNeg ≤ h_z G a0 ∧ dp.toNatClampNeg + z.toNatClampNeg ≤ h_z G a) ∧ κ G' = some r := ⟨_, rfl, ite_ok h⟩
theorem cP_ok {o : Option α} {κ : α → Option β} {r : β} (h : cP o κ = some r) : ∃ x, o = some x ∧ κ x = some r := by
  cases o with
  | none => cases h
  | some x => exact ⟨x, rfl, h⟩
theorem cH_ok {o : Option (α × Hp)} {κ : α → Hp → Option β} {r : β} (h : cH o κ = some r) : ∃ x G', o = some (x, G') ∧ κ x G' = some r := by
  cases o with
  | none => cases h
  | some x => exact ⟨x.1, x.2, rfl, h⟩
theorem vP_ok {G : Hp} {ci a : Nat} {o : Option α} {κ : α → Option β} {r : β} (h : vP G ci a o κ = some r) : ∃ x, (a < h_n G ∧ h_k G a = ci) ∧ o = some x ∧ κ x = some r := by
  obtain ⟨h1, h2⟩ := ite_ok h
  obtain ⟨x, h3, h4⟩ := cP_ok h2
  exact ⟨x, h1, h3, h4⟩
theorem vH_ok {G : Hp} {ci a : Nat} {o : Option (α × Hp)} {κ : α → Hp → Option β} {r : β} (h : vH G ci a o κ = some r) : ∃ x G', (a < h_n G ∧ h_k G a = ci) ∧ o = some (x, G') ∧ κ x G' = some r := by
  obtain ⟨h1, h2⟩ := ite_ok h
  obtain ⟨x, G', h3, h4⟩ := cH_ok h2
  exact ⟨x, G', h1, h3, h4⟩
theorem dI_ok {y : Int32} {o : Option β} {r : β} (h : dI y o = some r) : ¬ y = 0 ∧ o = some r := by
  by_cases hc : y = 0
  · rw [dI, if_pos hc] at h; cases h
  · rw [dI, if_neg hc] at h; exact ⟨hc, h⟩
theorem dL_ok {y : Int64} {o : Option β} {r : β} (h : dL y o = some r) : ¬ y = 0 ∧ o = some r := by
  by_cases hc : y = 0
  · rw [dL, if_pos hc] at h; cases h
  · rw [dL, if_neg hc] at h; exact ⟨hc, h⟩
theorem zR_ok {v : Int32} {o : Option β} {r : β} (h : zR v o = some r) : (v = 0 ∨ v = 1) ∧ o = some r := ite_ok h
theorem sL_ok {i : Nat} {κ : Int32 → Option β} {r : β} (h : sL i κ = some r) : ∃ x, x = Int32.ofNat (g_len.getD i 0) ∧ i < 4 ∧ κ x = some r := ⟨_, rfl, ite_ok h⟩
theorem sC_ok {i : Nat} {j : Int32} {κ : Int32 → Option β} {r : β} (h : sC i j κ = some r) : ∃ x, x = (g_byt.getD i []).getD j.toNatClampNeg 0 ∧ (i < 4 ∧ vp_in j (g_len.getD i 0)) ∧ κ x = some r := by
  have h9 := ite_ok h
  exact ⟨_, rfl, h9⟩
theorem xL_ok {n : Nat} {κ : Int32 → Option β} {r : β} (h : xL n κ = some r) : ∃ x, x = Int32.ofNat n ∧ κ x = some r := ⟨_, rfl, h⟩
theorem xI_ok {n : Nat} {xs : Nat → Int32} {i : Int32} {κ : Int32 → Option β} {r : β} (h : xI n xs i κ = some r) : ∃ x, x = xs i.toNatClampNeg ∧ vp_in i n ∧ κ x = some r := by
  have h9 := ite_ok h
  exact ⟨_, rfl, h9⟩
end CB
section GE
variable {E : EE} {X : CT} {cc : ByteArray} {own : String} {ret : Option FieldType} {F L Mc Ms : Nat} {ini : Bool} {mL : Nat} {q n : Nat} {G G' : Hp} {pc : Nat} {lv : List (Option Value)} {st : List Value}
theorem e_getI (C : gCx E X cc own ret F L Mc Ms ini mL) {idx ci k a : Nat} {fin : Bool} {ty : FieldType} {x : Int32} (hF : FL own idx ci k 0 fin ty) (hd : decode cc pc = .ok (.getfield idx, 3)) (hx : x = h_i G a k) (hg : a < h_n G ∧ h_k G a = ci) (kk : gV E X q n G (pc + 3) lv (.int x :: st)) : gV E X q n G pc lv (.ref (E.2.1 + a) :: st) := by
  subst hx
  exact g_getI C hF hd hg kk
theorem e_getL (C : gCx E X cc own ret F L Mc Ms ini mL) {idx ci k a : Nat} {fin : Bool} {ty : FieldType} {x : Int64} (hF : FL own idx ci k 1 fin ty) (hd : decode cc pc = .ok (.getfield idx, 3)) (hx : x = h_l G a k) (hg : a < h_n G ∧ h_k G a = ci) (kk : gV E X q n G (pc + 3) lv (.long x :: st)) : gV E X q n G pc lv (.ref (E.2.1 + a) :: st) := by
  subst hx
  exact g_getL C hF hd hg kk
theorem e_putI (C : gCx E X cc own ret F L Mc Ms ini mL) {idx ci k a : Nat} {fin : Bool} {ty : FieldType} {v : Int32} (hF : FL own idx ci k 0 fin ty) (hd : decode cc pc = .ok (.putfield idx, 3)) (hG : G' = s_i G a k v) (hg : a < h_n G ∧ h_k G a = ci) (hfi : fin = false ∨ (ini = true ∧ vwCl[ci]?.map (fun z => z.1) = some own)) (hn : narrow ty (.int v) = .int v) (hfit : fits ty (.int v) = true) (kk : gV E X q n G' (pc + 3) lv st) : gV E X q n G pc lv (.int v :: .ref (E.2.1 + a) :: st) := by
  subst hG
  exact g_putI C hF hd hg hfi hn hfit kk
theorem e_putL (C : gCx E X cc own ret F L Mc Ms ini mL) {idx ci k a : Nat} {fin : Bool} {v : Int64} (hF : FL own idx ci k 1 fin .long) (hd : decode cc pc = .ok (.putfield idx, 3)) (hG : G' = s_l G a k v) (hg : a < h_n G ∧ h_k G a = ci) (hfi : fin = false ∨ (ini = true ∧ vwCl[ci]?.map (fun z => z.1) = some own)) (kk : gV E X q n G' (pc + 3) lv st) : gV E X q n G pc lv (.long v :: .ref (E.2.1 + a) :: st) := by
  subst hG
  exact g_putL C hF hd hg hfi kk
theorem e_putR (C : gCx E X cc own ret F L Mc Ms ini mL) {idx ci k a r : Nat} {fin : Bool} {ty : FieldType} (hF : FL own idx ci k 2 fin ty) (hd : decode cc pc = .ok (.putfield idx, 3)) (hG : G' = s_r G a k (some r)) (hg : a < h_n G ∧ h_k G a = ci) (hfi : fin = false ∨ (ini = true ∧ vwCl[ci]?.map (fun z => z.1) = some own)) (hn : narrow ty (.ref (E.2.1 + r)) = .ref (E.2.1 + r)) (hfit : fits ty (.ref (E.2.1 + r)) = true) (kk : gV E X q n G' (pc + 3) lv st) : gV E X q n G pc lv (.ref (E.2.1 + r) :: .ref (E.2.1 + a) :: st) := by
  subst hG
  exact g_putR C hF hd hg hfi hn hfit kk
theorem e_alen (C : gCx E X cc own ret F L Mc Ms ini mL) {a : Nat} {x : Int32} (hd : decode cc pc = .ok (.arraylength, 1)) (hx : x = Int32.ofNat (h_z G a)) (hg : a < h_n G ∧ h_k G a = 11) (kk : gV E X q n G (pc + 1) lv (.int x :: st)) : gV E X q n G pc lv (.ref (E.2.1 + a) :: st) := by
  subst hx
  exact g_alen C hd hg kk
theorem e_iald (C : gCx E X cc own ret F L Mc Ms ini mL) {a : Nat} {i x : Int32} (hd : decode cc pc = .ok (.iaload, 1)) (hx : x = h_a G a i.toNatClampNeg) (hg : (a < h_n G ∧ h_k G a = 11) ∧ vp_in i (h_z G a)) (kk : gV E X q n G (pc + 1) lv (.int x :: st)) : gV E X q n G pc lv (.int i :: .ref (E.2.1 + a) :: st) := by
  subst hx
  exact g_iald C hd hg kk
theorem e_zald (C : gCx E X cc own ret F L Mc Ms ini mL) {a : Nat} {i x : Int32} (hd : decode cc pc = .ok (.baload, 1)) (hx : x = h_a G a i.toNatClampNeg) (hg : (a < h_n G ∧ h_k G a = 12) ∧ vp_in i (h_z G a)) (kk : gV E X q n G (pc + 1) lv (.int x :: st)) : gV E X q n G pc lv (.int i :: .ref (E.2.1 + a) :: st) := by
  subst hx
  exact g_zald C hd hg kk
theorem e_iast (C : gCx E X cc own ret F L Mc Ms ini mL) {a : Nat} {i x : Int32} (hd : decode cc pc = .ok (.iastore, 1)) (hG : G' = s_e G a i.toNatClampNeg x) (hg : (a < h_n G ∧ h_k G a = 11) ∧ vp_in i (h_z G a)) (kk : gV E X q n G' (pc + 1) lv st) : gV E X q n G pc lv (.int x :: .int i :: .ref (E.2.1 + a) :: st) := by
  subst hG
  exact g_iast C hd hg kk
theorem e_zast (C : gCx E X cc own ret F L Mc Ms ini mL) {a : Nat} {i x : Int32} (hd : decode cc pc = .ok (.bastore, 1)) (hG : G' = s_e G a i.toNatClampNeg x) (hg : (a < h_n G ∧ h_k G a = 12) ∧ vp_in i (h_z G a)) (hx : vp_nar .boolean x = x) (kk : gV E X q n G' (pc + 1) lv st) : gV E X q n G pc lv (.int x :: .int i :: .ref (E.2.1 + a) :: st) := by
  subst hG
  exact g_zast C hd hg hx kk
theorem e_copy (C : gCx E X cc own ret F L Mc Ms ini mL) {idx a0 a : Nat} {sp dp z : Int32} (h1 : Cond.methodLink own idx arraycopyName ∈ TB) (h2 : Cond.native arraycopyName ∈ TB) (h3 : Cond.static arraycopyName ∈ TB) (h4 : Cond.initialized "java/lang/System" ∈ TB) (hG : G' = s_a G a (va_cpy (h_a G a0) (h_a G a) sp.toNatClampNeg dp.toNatClampNeg z.toNatClampNeg)) (hg : (a0 < h_n G ∧ h_k G a0 = 11) ∧ (a < h_n G ∧ h_k G a = 11) ∧ (¬ sp < 0 ∧ ¬ dp < 0 ∧ ¬ z < 0) ∧ sp.toNatClampNeg + z.toNatClampNeg ≤ h_z G a0 ∧ dp.toNatClampNeg + z.toNatClampNeg ≤ h_z G a) (hF : 1 ≤ F) (hL : (st.map fun v => v.category).sum + 18 ≤ L) (hd : decode cc pc = .ok (.invokestatic idx, 3)) (kk : gV E X q n G' (pc + 3) lv st) : gV E X q n G pc lv (.int z :: .int dp :: .ref (E.2.1 + a) :: .int sp :: .ref (E.2.1 + a0) :: st) := by
  subst hG
  exact g_copy C h1 h2 h3 h4 hg hF hL hd kk
theorem e_top {x e : Int32} (hx : x = e) (kk : gV E X q n G pc lv (.int x :: st)) : gV E X q n G pc lv (.int e :: st) := hx ▸ kk
theorem e_topl {x e : Int64} (hx : x = e) (kk : gV E X q n G pc lv (.long x :: st)) : gV E X q n G pc lv (.long e :: st) := hx ▸ kk
theorem e_new (C : gCx E X cc own ret F L Mc Ms ini mL) {idx ci N a : Nat} {C0 : String} {T : u_T} (t0 : Nat → FieldType) (hc : vwCl[ci]? = some (C0, T, N)) (hci : ci < 11) (h2 : ∀ w ∈ u_ws C0 T N, w ∈ TB) (h3 : ∀ j, j < N → parseFieldDescriptor (T j).2.2.1 = some (t0 j)) (hlen : (fty ci).length = N) (ht : ∀ j t, (fty ci)[j]? = some t → defaultValue (t0 j) = if t = 0 then .int 0 else if t = 1 then .long 0 else .null) (h4 : Cond.classLink own idx C0 ∈ TB) (h5 : Cond.instantiable C0 N ∈ TB) (h6 : Cond.initialized C0 ∈ TB) (hq : q + 1 ≤ Mc ∧ n + N ≤ Ms) (hd : decode cc pc = .ok (.new idx, 3)) (ha : a = h_n G) (hG : G' = s_new G ci) (kk : gV E X (q + 1) (n + N) G' (pc + 3) lv (.ref (E.2.1 + a) :: st)) : gV E X q n G pc lv st := by
  subst ha hG
  exact g_new C t0 hc hci h2 h3 hlen ht h4 h5 h6 hq hd kk
theorem e_newa (C : gCx E X cc own ret F L Mc Ms ini mL) {atype : ArrayType} {kc a sl : Nat} {z : Int32} (hat : (atype = .int ∧ kc = 11) ∨ (atype = .boolean ∧ kc = 12)) (h1 : Cond.arrayClass (newarray.typeOf atype) ∈ TB) (hz : ¬ z < 0 ∧ z.toNatClampNeg ≤ 1000) (hsl : z.toNatClampNeg ≤ sl) (hq : q + 1 ≤ Mc ∧ n + sl ≤ Ms) (hd : decode cc pc = .ok (.newarray atype, 2)) (ha : a = h_n G) (hG : G' = s_arr G kc z.toNatClampNeg) (kk : gV E X (q + 1) (n + sl) G' (pc + 2) lv (.ref (E.2.1 + a) :: st)) : gV E X q n G pc lv (.int z :: st) := by
  subst ha hG
  exact g_newa C hat h1 hz.1 hz.2 ⟨hq.1, by omega⟩ hd (g_wide (Nat.le_refl _) (by omega) kk)
theorem e_max (C : gCx E X cc own ret F L Mc Ms ini mL) {idx : Nat} {x y : Int32} (h1 : Cond.methodLink own idx Lib.Math.max.name ∈ TB) (h2 : Cond.static Lib.Math.max.name ∈ TB ∧ Cond.initialized "java/lang/Math" ∈ TB ∧ Cond.code Lib.Math.max.name Lib.Math.max.code 2 (some .int) ∈ TB) (hF : 1 ≤ F) (hL : (st.map fun v => v.category).sum + 13 ≤ L) (hq : q ≤ Mc ∧ n ≤ Ms) (hd : decode cc pc = .ok (.invokestatic idx, 3)) (kk : gV E X q n G (pc + 3) lv (.int (mx x y) :: st)) : gV E X q n G pc lv (.int y :: .int x :: st) := g_max C h1 h2.1 h2.2.1 h2.2.2 hF hL hq hd kk
theorem e_min (C : gCx E X cc own ret F L Mc Ms ini mL) {idx : Nat} {x y : Int32} (h1 : Cond.methodLink own idx Lib.Math.min.name ∈ TB) (h2 : Cond.static Lib.Math.min.name ∈ TB ∧ Cond.initialized "java/lang/Math" ∈ TB ∧ Cond.code Lib.Math.min.name Lib.Math.min.code 2 (some .int) ∈ TB) (hF : 1 ≤ F) (hL : (st.map fun v => v.category).sum + 13 ≤ L) (hq : q ≤ Mc ∧ n ≤ Ms) (hd : decode cc pc = .ok (.invokestatic idx, 3)) (kk : gV E X q n G (pc + 3) lv (.int (mn x y) :: st)) : gV E X q n G pc lv (.int y :: .int x :: st) := g_min C h1 h2.1 h2.2.1 h2.2.2 hF hL hq hd kk
end GE
theorem tb_all {ws : List Cond} (h1 : ∀ w ∈ ws, w ∈ lw_tbl) (h2 : ∀ w ∈ ws, goodWord w = true) : ∀ w ∈ ws, w ∈ TB := fun w hw => List.mem_filter.mpr ⟨h1 w hw, h2 w hw⟩
/-- what the tables say of a method that is called on an object; of a static one; of a constructor -/
def CMV (y : MethodName) (cc : ByteArray) (mL : Nat) (ret : Option FieldType) (na : Nat) : Prop := Cond.instanceMethod y ∈ TB ∧ Cond.selects y.cls y y ∈ TB ∧ Cond.initialized y.cls ∈ TB ∧ Cond.code y cc mL ret ∈ TB ∧ CN y na
def CMS (y : MethodName) (cc : ByteArray) (mL : Nat) (ret : Option FieldType) (na : Nat) : Prop := Cond.static y ∈ TB ∧ Cond.initialized y.cls ∈ TB ∧ Cond.code y cc mL ret ∈ TB ∧ CN y na
def CMI (y : MethodName) (cc : ByteArray) (mL : Nat) (na : Nat) : Prop := Cond.instanceMethod y ∈ TB ∧ Cond.initialized y.cls ∈ TB ∧ Cond.code y cc mL none ∈ TB ∧ y.name = "<init>" ∧ CN y na
end
section
/-! ===== the words of the tables ===== -/
abbrev y_Ci_init : MethodName := ⟨"FavoursGoOff$Circle", "<init>", "()V"⟩
abbrev y_Ci_find : MethodName := ⟨"FavoursGoOff$Circle", "find", "(LFavoursGoOff$Debts;)V"⟩
abbrev y_Ci_member : MethodName := ⟨"FavoursGoOff$Circle", "member", "(I)I"⟩
abbrev y_Ci_closes : MethodName := ⟨"FavoursGoOff$Circle", "closes", "(LFavoursGoOff$Circle;LFavoursGoOff$Debts;II)Z"⟩
abbrev y_Ci_holds : MethodName := ⟨"FavoursGoOff$Circle", "holds", "(II)Z"⟩
abbrev y_De_init : MethodName := ⟨"FavoursGoOff$Debts", "<init>", "()V"⟩
abbrev y_De_addUp : MethodName := ⟨"FavoursGoOff$Debts", "addUp", "(LFavoursGoOff$Street;I)V"⟩
abbrev y_De_between : MethodName := ⟨"FavoursGoOff$Debts", "between", "(II)I"⟩
abbrev y_De_balance : MethodName := ⟨"FavoursGoOff$Debts", "balance", "(I)I"⟩
abbrev y_De_fewestPayments : MethodName := ⟨"FavoursGoOff$Debts", "fewestPayments", "()I"⟩
abbrev y_De_mostGroups : MethodName := ⟨"FavoursGoOff$Debts", "mostGroups", "(I)I"⟩
abbrev y_De_callAllIn : MethodName := ⟨"FavoursGoOff$Debts", "callAllIn", "(LFavoursGoOff$Table;)V"⟩
abbrev y_De_dueFrom : MethodName := ⟨"FavoursGoOff$Debts", "dueFrom", "(I)I"⟩
abbrev y_De_doneFor : MethodName := ⟨"FavoursGoOff$Debts", "doneFor", "(II)I"⟩
abbrev y_Fr_init : MethodName := ⟨"FavoursGoOff$Fraction", "<init>", "()V"⟩
abbrev y_Fr_become : MethodName := ⟨"FavoursGoOff$Fraction", "become", "(JJ)V"⟩
abbrev y_Fr_commonDivisor : MethodName := ⟨"FavoursGoOff$Fraction", "commonDivisor", "(JJ)J"⟩
abbrev y_Hi_init : MethodName := ⟨"FavoursGoOff$History", "<init>", "()V"⟩
abbrev y_Hi_keepNight : MethodName := ⟨"FavoursGoOff$History", "keepNight", "()V"⟩
abbrev y_Hi_goBack : MethodName := ⟨"FavoursGoOff$History", "goBack", "()V"⟩
abbrev y_Hi_copyFrom : MethodName := ⟨"FavoursGoOff$History", "copyFrom", "(LFavoursGoOff$History;)V"⟩
abbrev y_Pl_init : MethodName := ⟨"FavoursGoOff$Plan", "<init>", "()V"⟩
abbrev y_Pl_make : MethodName := ⟨"FavoursGoOff$Plan", "make", "(LFavoursGoOff$Street;)V"⟩
abbrev y_Pl_favourOf : MethodName := ⟨"FavoursGoOff$Plan", "favourOf", "(I)I"⟩
abbrev y_Pl_layOut : MethodName := ⟨"FavoursGoOff$Plan", "layOut", "(LFavoursGoOff$Street;I)V"⟩
abbrev y_Pl_lookAhead : MethodName := ⟨"FavoursGoOff$Plan", "lookAhead", "()V"⟩
abbrev y_Pl_search : MethodName := ⟨"FavoursGoOff$Plan", "search", "(LFavoursGoOff$Plan;IIII)V"⟩
abbrev y_Pl_isNoBetter : MethodName := ⟨"FavoursGoOff$Plan", "isNoBetter", "(II)Z"⟩
abbrev y_Pl_keepIfBetter : MethodName := ⟨"FavoursGoOff$Plan", "keepIfBetter", "(II)V"⟩
abbrev y_Re_init : MethodName := ⟨"FavoursGoOff$Reader", "<init>", "()V"⟩
abbrev y_Re_readStreet : MethodName := ⟨"FavoursGoOff$Reader", "readStreet", "()I"⟩
abbrev y_Re_readPeople : MethodName := ⟨"FavoursGoOff$Reader", "readPeople", "()V"⟩
abbrev y_Re_readItem : MethodName := ⟨"FavoursGoOff$Reader", "readItem", "()V"⟩
abbrev y_Re_readStrong : MethodName := ⟨"FavoursGoOff$Reader", "readStrong", "()V"⟩
abbrev y_Re_readFavour : MethodName := ⟨"FavoursGoOff$Reader", "readFavour", "()V"⟩
abbrev y_Re_readNeed : MethodName := ⟨"FavoursGoOff$Reader", "readNeed", "()V"⟩
abbrev y_Re_refuse : MethodName := ⟨"FavoursGoOff$Reader", "refuse", "(I)V"⟩
abbrev y_Re_takeNumber : MethodName := ⟨"FavoursGoOff$Reader", "takeNumber", "(II)I"⟩
abbrev y_Re_takeStop : MethodName := ⟨"FavoursGoOff$Reader", "takeStop", "()V"⟩
abbrev y_Re_fail : MethodName := ⟨"FavoursGoOff$Reader", "fail", "()V"⟩
abbrev y_Re_step : MethodName := ⟨"FavoursGoOff$Reader", "step", "()V"⟩
abbrev y_Re_endOfRun : MethodName := ⟨"FavoursGoOff$Reader", "endOfRun", "(II)I"⟩
abbrev y_Re_takeFigures : MethodName := ⟨"FavoursGoOff$Reader", "takeFigures", "()V"⟩
abbrev y_Re_isWord : MethodName := ⟨"FavoursGoOff$Reader", "isWord", "(Ljava/lang/String;)Z"⟩
abbrev y_St_init : MethodName := ⟨"FavoursGoOff$Street", "<init>", "()V"⟩
abbrev y_St_open : MethodName := ⟨"FavoursGoOff$Street", "open", "(I)V"⟩
abbrev y_St_copyFrom : MethodName := ⟨"FavoursGoOff$Street", "copyFrom", "(LFavoursGoOff$Street;)V"⟩
abbrev y_St_takeAllButRates : MethodName := ⟨"FavoursGoOff$Street", "takeAllButRates", "(LFavoursGoOff$Street;)V"⟩
abbrev y_St_addFavour : MethodName := ⟨"FavoursGoOff$Street", "addFavour", "(IIIIII)I"⟩
abbrev y_St_addNeed : MethodName := ⟨"FavoursGoOff$Street", "addNeed", "(IIII)I"⟩
abbrev y_St_addPass : MethodName := ⟨"FavoursGoOff$Street", "addPass", "(III)I"⟩
abbrev y_St_wake : MethodName := ⟨"FavoursGoOff$Street", "wake", "()V"⟩
abbrev y_St_valueNow : MethodName := ⟨"FavoursGoOff$Street", "valueNow", "(I)I"⟩
abbrev y_St_valueOn : MethodName := ⟨"FavoursGoOff$Street", "valueOn", "(II)I"⟩
abbrev y_St_areAlike : MethodName := ⟨"FavoursGoOff$Street", "areAlike", "(II)Z"⟩
abbrev y_St_merge : MethodName := ⟨"FavoursGoOff$Street", "merge", "(II)I"⟩
abbrev y_St_cheapest : MethodName := ⟨"FavoursGoOff$Street", "cheapest", "(II)I"⟩
abbrev y_St_holderAhead : MethodName := ⟨"FavoursGoOff$Street", "holderAhead", "(I)I"⟩
abbrev y_St_rateNow : MethodName := ⟨"FavoursGoOff$Street", "rateNow", "(I)I"⟩
abbrev y_St_setRate : MethodName := ⟨"FavoursGoOff$Street", "setRate", "(II)V"⟩
abbrev y_St_drift : MethodName := ⟨"FavoursGoOff$Street", "drift", "(I)I"⟩
abbrev y_Ta_init : MethodName := ⟨"FavoursGoOff$Table", "<init>", "(II)V"⟩
abbrev y_Ta_has : MethodName := ⟨"FavoursGoOff$Table", "has", "(I)Z"⟩
abbrev y_Ta_isFull : MethodName := ⟨"FavoursGoOff$Table", "isFull", "()Z"⟩
abbrev y_Ta_at : MethodName := ⟨"FavoursGoOff$Table", "at", "(II)I"⟩
abbrev y_Ta_put : MethodName := ⟨"FavoursGoOff$Table", "put", "(III)V"⟩
abbrev y_Ta_more : MethodName := ⟨"FavoursGoOff$Table", "more", "(III)V"⟩
abbrev y_Ta_fillRow : MethodName := ⟨"FavoursGoOff$Table", "fillRow", "(II)V"⟩
abbrev y_Ta_add : MethodName := ⟨"FavoursGoOff$Table", "add", "()I"⟩
abbrev y_Ta_empty : MethodName := ⟨"FavoursGoOff$Table", "empty", "()I"⟩
abbrev y_Ta_copyFrom : MethodName := ⟨"FavoursGoOff$Table", "copyFrom", "(LFavoursGoOff$Table;)V"⟩
abbrev y_Ta_mixedInto : MethodName := ⟨"FavoursGoOff$Table", "mixedInto", "(J)J"⟩
abbrev y_Ta_placeOf : MethodName := ⟨"FavoursGoOff$Table", "placeOf", "(II)I"⟩
abbrev y_Te_init : MethodName := ⟨"FavoursGoOff$Text", "<init>", "()V"⟩
abbrev y_Te_add : MethodName := ⟨"FavoursGoOff$Text", "add", "(I)V"⟩
abbrev y_Te_at : MethodName := ⟨"FavoursGoOff$Text", "at", "(I)I"⟩
abbrev y_Fa_init : MethodName := ⟨"FavoursGoOff", "<init>", "()V"⟩
abbrev y_Fa_people : MethodName := ⟨"FavoursGoOff", "people", "(I)I"⟩
abbrev y_Fa_strong : MethodName := ⟨"FavoursGoOff", "strong", "(II)I"⟩
abbrev y_Fa_favour : MethodName := ⟨"FavoursGoOff", "favour", "(IIIIII)I"⟩
abbrev y_Fa_need : MethodName := ⟨"FavoursGoOff", "need", "(IIII)I"⟩
abbrev y_Fa_contented : MethodName := ⟨"FavoursGoOff", "contented", "()I"⟩
abbrev y_Fa_type : MethodName := ⟨"FavoursGoOff", "type", "(JI)I"⟩
abbrev y_Fa_clear : MethodName := ⟨"FavoursGoOff", "clear", "()I"⟩
abbrev y_Fa_read : MethodName := ⟨"FavoursGoOff", "read", "()I"⟩
abbrev y_Fa_value : MethodName := ⟨"FavoursGoOff", "value", "(II)I"⟩
abbrev y_Fa_of : MethodName := ⟨"FavoursGoOff", "of", "(I)I"⟩
abbrev y_Fa_pass : MethodName := ⟨"FavoursGoOff", "pass", "(II)I"⟩
abbrev y_Fa_join : MethodName := ⟨"FavoursGoOff", "join", "(II)I"⟩
abbrev y_Fa_ask : MethodName := ⟨"FavoursGoOff", "ask", "(I)I"⟩
abbrev y_Fa_night : MethodName := ⟨"FavoursGoOff", "night", "()I"⟩
abbrev y_Fa_undo : MethodName := ⟨"FavoursGoOff", "undo", "()I"⟩
abbrev y_Fa_owes : MethodName := ⟨"FavoursGoOff", "owes", "(II)I"⟩
abbrev y_Fa_ring : MethodName := ⟨"FavoursGoOff", "ring", "(I)I"⟩
abbrev y_Fa_cancel : MethodName := ⟨"FavoursGoOff", "cancel", "()I"⟩
abbrev y_Fa_net : MethodName := ⟨"FavoursGoOff", "net", "(I)I"⟩
abbrev y_Fa_fewest : MethodName := ⟨"FavoursGoOff", "fewest", "()I"⟩
abbrev y_Fa_met : MethodName := ⟨"FavoursGoOff", "met", "(I)I"⟩
abbrev y_Fa_plan : MethodName := ⟨"FavoursGoOff", "plan", "(I)I"⟩
abbrev y_Fa_fire : MethodName := ⟨"FavoursGoOff", "fire", "(II)I"⟩
abbrev y_Fa_rate : MethodName := ⟨"FavoursGoOff", "rate", "(II)I"⟩
abbrev y_Fa_set : MethodName := ⟨"FavoursGoOff", "set", "(II)I"⟩
abbrev y_Fa_settles : MethodName := ⟨"FavoursGoOff", "settles", "()I"⟩
abbrev y_Fa_told : MethodName := ⟨"FavoursGoOff", "told", "(III)I"⟩
abbrev y_Fa_forged : MethodName := ⟨"FavoursGoOff", "forged", "()I"⟩
abbrev y_Fa_forget : MethodName := ⟨"FavoursGoOff", "forget", "()I"⟩
abbrev y_Fa_goesOff : MethodName := ⟨"FavoursGoOff", "goesOff", "(I)I"⟩
abbrev y_Fa_kept : MethodName := ⟨"FavoursGoOff", "kept", "(II)I"⟩
abbrev y_Fa_part : MethodName := ⟨"FavoursGoOff", "part", "(I)J"⟩
abbrev y_Fa_image : MethodName := ⟨"FavoursGoOff", "image", "(I)I"⟩
abbrev y_Fa_from : MethodName := ⟨"FavoursGoOff", "from", "(I)I"⟩
abbrev y_Fa_status : MethodName := ⟨"FavoursGoOff", "status", "(I)I"⟩
abbrev y_Fa_count : MethodName := ⟨"FavoursGoOff", "count", "(I)I"⟩
abbrev y_Fa_digest : MethodName := ⟨"FavoursGoOff", "digest", "()J"⟩
abbrev y_Fa_howMany : MethodName := ⟨"FavoursGoOff", "howMany", "(I)I"⟩
abbrev y_Fa_imageAt : MethodName := ⟨"FavoursGoOff", "imageAt", "(I)LFavoursGoOff$History;"⟩
abbrev y_Fa_findRing : MethodName := ⟨"FavoursGoOff", "findRing", "()V"⟩
abbrev y_Fa_bad : MethodName := ⟨"FavoursGoOff", "bad", "(I)I"⟩
abbrev y_Fa_no : MethodName := ⟨"FavoursGoOff", "no", "(I)I"⟩
abbrev y_Fa_full : MethodName := ⟨"FavoursGoOff", "full", "()I"⟩
abbrev y_Fa_isDayToCome : MethodName := ⟨"FavoursGoOff", "isDayToCome", "(I)Z"⟩
abbrev y_Fa_isDay : MethodName := ⟨"FavoursGoOff", "isDay", "(I)Z"⟩
abbrev y_Fa_isThing : MethodName := ⟨"FavoursGoOff", "isThing", "(I)Z"⟩
abbrev y_Fa_isWithin : MethodName := ⟨"FavoursGoOff", "isWithin", "(III)Z"⟩
abbrev y_Fa_heldRate : MethodName := ⟨"FavoursGoOff", "heldRate", "(I)I"⟩
abbrev y_Fa_lastChange : MethodName := ⟨"FavoursGoOff", "lastChange", "(II)I"⟩
abbrev y_Fa_power : MethodName := ⟨"FavoursGoOff", "power", "(II)J"⟩
abbrev y_Fa_choices : MethodName := ⟨"FavoursGoOff", "choices", "(II)J"⟩
abbrev y_Mo_init : MethodName := ⟨"FavoursGoOffModel", "<init>", "()V"⟩
abbrev y_Mo_in : MethodName := ⟨"FavoursGoOffModel", "in", "(JJJ)Z"⟩
abbrev y_Mo_bad : MethodName := ⟨"FavoursGoOffModel", "bad", "(I)I"⟩
abbrev y_Mo_no : MethodName := ⟨"FavoursGoOffModel", "no", "(I)I"⟩
abbrev y_Mo_full : MethodName := ⟨"FavoursGoOffModel", "full", "()I"⟩
abbrev y_Mo_tells : MethodName := ⟨"FavoursGoOffModel", "tells", "(JJ)I"⟩
abbrev y_Mo_begin : MethodName := ⟨"FavoursGoOffModel", "begin", "([II)V"⟩
abbrev y_Mo_day : MethodName := ⟨"FavoursGoOffModel", "day", "()I"⟩
abbrev y_Mo_many : MethodName := ⟨"FavoursGoOffModel", "many", "()I"⟩
abbrev y_Mo_isOne : MethodName := ⟨"FavoursGoOffModel", "isOne", "(I)Z"⟩
abbrev y_Mo_isDay : MethodName := ⟨"FavoursGoOffModel", "isDay", "(I)Z"⟩
abbrev y_Mo_isThing : MethodName := ⟨"FavoursGoOffModel", "isThing", "(I)Z"⟩
abbrev y_Mo_isFavour : MethodName := ⟨"FavoursGoOffModel", "isFavour", "(I)Z"⟩
abbrev y_Mo_told0 : MethodName := ⟨"FavoursGoOffModel", "told0", "(II)I"⟩
abbrev y_Mo_people : MethodName := ⟨"FavoursGoOffModel", "people", "(I)I"⟩
abbrev y_Mo_strong : MethodName := ⟨"FavoursGoOffModel", "strong", "(II)I"⟩
abbrev y_Mo_layFavour : MethodName := ⟨"FavoursGoOffModel", "layFavour", "([IIIIIIIII)V"⟩
abbrev y_Mo_favour : MethodName := ⟨"FavoursGoOffModel", "favour", "(IIIIII)I"⟩
abbrev y_Mo_layNeed : MethodName := ⟨"FavoursGoOffModel", "layNeed", "([IIIIII)V"⟩
abbrev y_Mo_need : MethodName := ⟨"FavoursGoOffModel", "need", "(IIII)I"⟩
abbrev y_Mo_contented : MethodName := ⟨"FavoursGoOffModel", "contented", "()I"⟩
abbrev y_Mo_notBelow0 : MethodName := ⟨"FavoursGoOffModel", "notBelow0", "(I)I"⟩
abbrev y_Mo_valueOf : MethodName := ⟨"FavoursGoOffModel", "valueOf", "(II)I"⟩
abbrev y_Mo_valueNow : MethodName := ⟨"FavoursGoOffModel", "valueNow", "(I)I"⟩
abbrev y_Mo_value : MethodName := ⟨"FavoursGoOffModel", "value", "(II)I"⟩
abbrev y_Mo_of : MethodName := ⟨"FavoursGoOffModel", "of", "(I)I"⟩
abbrev y_Mo_lose : MethodName := ⟨"FavoursGoOffModel", "lose", "(I)V"⟩
abbrev y_Mo_pass : MethodName := ⟨"FavoursGoOffModel", "pass", "(II)I"⟩
abbrev y_Mo_join : MethodName := ⟨"FavoursGoOffModel", "join", "(II)I"⟩
abbrev y_Mo_ask : MethodName := ⟨"FavoursGoOffModel", "ask", "(I)I"⟩
abbrev y_Mo_night : MethodName := ⟨"FavoursGoOffModel", "night", "()I"⟩
abbrev y_Mo_undo : MethodName := ⟨"FavoursGoOffModel", "undo", "()I"⟩
abbrev y_Mo_owesTo : MethodName := ⟨"FavoursGoOffModel", "owesTo", "(II)I"⟩
abbrev y_Mo_owes : MethodName := ⟨"FavoursGoOffModel", "owes", "(II)I"⟩
abbrev y_Mo_layRing : MethodName := ⟨"FavoursGoOffModel", "layRing", "(II)Z"⟩
abbrev y_Mo_findRing : MethodName := ⟨"FavoursGoOffModel", "findRing", "()V"⟩
abbrev y_Mo_ring : MethodName := ⟨"FavoursGoOffModel", "ring", "(I)I"⟩
abbrev y_Mo_leastOf : MethodName := ⟨"FavoursGoOffModel", "leastOf", "(II)I"⟩
abbrev y_Mo_cancel : MethodName := ⟨"FavoursGoOffModel", "cancel", "()I"⟩
abbrev y_Mo_netOf : MethodName := ⟨"FavoursGoOffModel", "netOf", "(I)I"⟩
abbrev y_Mo_net : MethodName := ⟨"FavoursGoOffModel", "net", "(I)I"⟩
abbrev y_Mo_fewest : MethodName := ⟨"FavoursGoOffModel", "fewest", "()I"⟩
abbrev y_Mo_need0 : MethodName := ⟨"FavoursGoOffModel", "need0", "(II)I"⟩
abbrev y_Mo_mayMeet : MethodName := ⟨"FavoursGoOffModel", "mayMeet", "(II)Z"⟩
abbrev y_Mo_fits : MethodName := ⟨"FavoursGoOffModel", "fits", "(I)Z"⟩
abbrev y_Mo_look : MethodName := ⟨"FavoursGoOffModel", "look", "()V"⟩
abbrev y_Mo_findMet : MethodName := ⟨"FavoursGoOffModel", "findMet", "()V"⟩
abbrev y_Mo_met : MethodName := ⟨"FavoursGoOffModel", "met", "(I)I"⟩
abbrev y_Mo_plan : MethodName := ⟨"FavoursGoOffModel", "plan", "(I)I"⟩
abbrev y_Mo_toDo : MethodName := ⟨"FavoursGoOffModel", "toDo", "(II)I"⟩
abbrev y_Mo_doneFor : MethodName := ⟨"FavoursGoOffModel", "doneFor", "(III)I"⟩
abbrev y_Mo_fire : MethodName := ⟨"FavoursGoOffModel", "fire", "(II)I"⟩
abbrev y_Mo_ratesBy : MethodName := ⟨"FavoursGoOffModel", "ratesBy", "(I)I"⟩
abbrev y_Mo_hold : MethodName := ⟨"FavoursGoOffModel", "hold", "(I)I"⟩
abbrev y_Mo_rate : MethodName := ⟨"FavoursGoOffModel", "rate", "(II)I"⟩
abbrev y_Mo_set : MethodName := ⟨"FavoursGoOffModel", "set", "(II)I"⟩
abbrev y_Mo_settles : MethodName := ⟨"FavoursGoOffModel", "settles", "()I"⟩
abbrev y_Mo_told : MethodName := ⟨"FavoursGoOffModel", "told", "(III)I"⟩
abbrev y_Mo_forged : MethodName := ⟨"FavoursGoOffModel", "forged", "()I"⟩
abbrev y_Mo_forget : MethodName := ⟨"FavoursGoOffModel", "forget", "()I"⟩
abbrev y_Mo_goesOff : MethodName := ⟨"FavoursGoOffModel", "goesOff", "(I)I"⟩
abbrev y_Mo_kept : MethodName := ⟨"FavoursGoOffModel", "kept", "(II)I"⟩
abbrev y_Mo_type : MethodName := ⟨"FavoursGoOffModel", "type", "(JI)I"⟩
abbrev y_Mo_clear : MethodName := ⟨"FavoursGoOffModel", "clear", "()I"⟩
abbrev y_Mo_isSmall : MethodName := ⟨"FavoursGoOffModel", "isSmall", "(I)Z"⟩
abbrev y_Mo_isFigure : MethodName := ⟨"FavoursGoOffModel", "isFigure", "(I)Z"⟩
abbrev y_Mo_lookAt : MethodName := ⟨"FavoursGoOffModel", "lookAt", "(I)V"⟩
abbrev y_Mo_goOn : MethodName := ⟨"FavoursGoOffModel", "goOn", "()V"⟩
abbrev y_Mo_isWord : MethodName := ⟨"FavoursGoOffModel", "isWord", "(IIIIII)Z"⟩
abbrev y_Mo_takes : MethodName := ⟨"FavoursGoOffModel", "takes", "(III)Z"⟩
abbrev y_Mo_readsStrong : MethodName := ⟨"FavoursGoOffModel", "readsStrong", "()Z"⟩
abbrev y_Mo_readsFavour : MethodName := ⟨"FavoursGoOffModel", "readsFavour", "()Z"⟩
abbrev y_Mo_readsNeed : MethodName := ⟨"FavoursGoOffModel", "readsNeed", "()Z"⟩
abbrev y_Mo_readsItem : MethodName := ⟨"FavoursGoOffModel", "readsItem", "(Z)Z"⟩
abbrev y_Mo_read : MethodName := ⟨"FavoursGoOffModel", "read", "()I"⟩
abbrev y_Mo_part : MethodName := ⟨"FavoursGoOffModel", "part", "(I)J"⟩
abbrev y_Mo_image : MethodName := ⟨"FavoursGoOffModel", "image", "(I)I"⟩
abbrev y_Mo_from : MethodName := ⟨"FavoursGoOffModel", "from", "(I)I"⟩
abbrev y_Mo_status : MethodName := ⟨"FavoursGoOffModel", "status", "(I)I"⟩
abbrev y_Mo_counted : MethodName := ⟨"FavoursGoOffModel", "counted", "(I)I"⟩
abbrev y_Mo_count : MethodName := ⟨"FavoursGoOffModel", "count", "(I)I"⟩
abbrev y_Mo_sums : MethodName := ⟨"FavoursGoOffModel", "sums", "(JII)J"⟩
abbrev y_Mo_digest : MethodName := ⟨"FavoursGoOffModel", "digest", "()J"⟩
abbrev y_JS_length_8abf5 : MethodName := ⟨"java/lang/String", "length", "()I"⟩
abbrev y_JS_charAt_5068e : MethodName := ⟨"java/lang/String", "charAt", "(I)C"⟩
abbrev y_JS_coder_7d493 : MethodName := ⟨"java/lang/String", "coder", "()B"⟩
abbrev y_JS_isLatin1_aae02 : MethodName := ⟨"java/lang/String", "isLatin1", "()Z"⟩
abbrev y_JS_checkIndex_df160 : MethodName := ⟨"java/lang/String", "checkIndex", "(II)V"⟩
abbrev y_JL_charAt_3b067 : MethodName := ⟨"java/lang/StringLatin1", "charAt", "([BI)C"⟩
abbrev y_JU_getChar_3b067 : MethodName := ⟨"java/lang/StringUTF16", "getChar", "([BI)C"⟩
abbrev y_JU_length_9d52b : MethodName := ⟨"java/lang/StringUTF16", "length", "([B)I"⟩
abbrev y_JU_charAt_3b067 : MethodName := ⟨"java/lang/StringUTF16", "charAt", "([BI)C"⟩
abbrev y_JU_checkIndex_2214a : MethodName := ⟨"java/lang/StringUTF16", "checkIndex", "(I[B)V"⟩
abbrev y_JP_checkIndex_8e157 : MethodName := ⟨"jdk/internal/util/Preconditions", "checkIndex", "(IILjava/util/function/BiFunction;)I"⟩
abbrev y_La_law : MethodName := ⟨"FavoursGoOffLaw", "law", "([I)Z"⟩
theorem ul_0 : ∀ w ∈ u_ws RX0 TX0 2, w ∈ TB := tb_all (by decide +kernel) (by decide +kernel)
theorem ft_0 : ∀ j t, (fty 0)[j]? = some t → defaultValue (tyX0 j) = if t = 0 then .int 0 else if t = 1 then .long 0 else .null := by
  intro j t h
  have hj : j < 2 := (List.getElem?_eq_some_iff.mp h).1
  match j, hj, h with
  | 0, _, h => cases h; rfl
  | 1, _, h => cases h; rfl
  | j + 2, hj, _ => omega
theorem ul_1 : ∀ w ∈ u_ws RX1 TX1 6, w ∈ TB := tb_all (by decide +kernel) (by decide +kernel)
theorem ft_1 : ∀ j t, (fty 1)[j]? = some t → defaultValue (tyX1 j) = if t = 0 then .int 0 else if t = 1 then .long 0 else .null := by
  intro j t h
  have hj : j < 6 := (List.getElem?_eq_some_iff.mp h).1
  match j, hj, h with
  | 0, _, h => cases h; rfl
  | 1, _, h => cases h; rfl
  | 2, _, h => cases h; rfl
  | 3, _, h => cases h; rfl
  | 4, _, h => cases h; rfl
  | 5, _, h => cases h; rfl
  | j + 6, hj, _ => omega
theorem ul_2 : ∀ w ∈ u_ws RX2 TX2 2, w ∈ TB := tb_all (by decide +kernel) (by decide +kernel)
theorem ft_2 : ∀ j t, (fty 2)[j]? = some t → defaultValue (tyX2 j) = if t = 0 then .int 0 else if t = 1 then .long 0 else .null := by
  intro j t h
  have hj : j < 2 := (List.getElem?_eq_some_iff.mp h).1
  match j, hj, h with
  | 0, _, h => cases h; rfl
  | 1, _, h => cases h; rfl
  | j + 2, hj, _ => omega
theorem ul_3 : ∀ w ∈ u_ws RX3 TX3 5, w ∈ TB := tb_all (by decide +kernel) (by decide +kernel)
theorem ft_3 : ∀ j t, (fty 3)[j]? = some t → defaultValue (tyX3 j) = if t = 0 then .int 0 else if t = 1 then .long 0 else .null := by
  intro j t h
  have hj : j < 5 := (List.getElem?_eq_some_iff.mp h).1
  match j, hj, h with
  | 0, _, h => cases h; rfl
  | 1, _, h => cases h; rfl
  | 2, _, h => cases h; rfl
  | 3, _, h => cases h; rfl
  | 4, _, h => cases h; rfl
  | j + 5, hj, _ => omega
theorem ul_4 : ∀ w ∈ u_ws RX4 TX4 13, w ∈ TB := tb_all (by decide +kernel) (by decide +kernel)
theorem ft_4 : ∀ j t, (fty 4)[j]? = some t → defaultValue (tyX4 j) = if t = 0 then .int 0 else if t = 1 then .long 0 else .null := by
  intro j t h
  have hj : j < 13 := (List.getElem?_eq_some_iff.mp h).1
  match j, hj, h with
  | 0, _, h => cases h; rfl
  | 1, _, h => cases h; rfl
  | 2, _, h => cases h; rfl
  | 3, _, h => cases h; rfl
  | 4, _, h => cases h; rfl
  | 5, _, h => cases h; rfl
  | 6, _, h => cases h; rfl
  | 7, _, h => cases h; rfl
  | 8, _, h => cases h; rfl
  | 9, _, h => cases h; rfl
  | 10, _, h => cases h; rfl
  | 11, _, h => cases h; rfl
  | 12, _, h => cases h; rfl
  | j + 13, hj, _ => omega
theorem ul_5 : ∀ w ∈ u_ws RX5 TX5 8, w ∈ TB := tb_all (by decide +kernel) (by decide +kernel)
theorem ft_5 : ∀ j t, (fty 5)[j]? = some t → defaultValue (tyX5 j) = if t = 0 then .int 0 else if t = 1 then .long 0 else .null := by
  intro j t h
  have hj : j < 8 := (List.getElem?_eq_some_iff.mp h).1
  match j, hj, h with
  | 0, _, h => cases h; rfl
  | 1, _, h => cases h; rfl
  | 2, _, h => cases h; rfl
  | 3, _, h => cases h; rfl
  | 4, _, h => cases h; rfl
  | 5, _, h => cases h; rfl
  | 6, _, h => cases h; rfl
  | 7, _, h => cases h; rfl
  | j + 8, hj, _ => omega
theorem ul_6 : ∀ w ∈ u_ws RX6 TX6 6, w ∈ TB := tb_all (by decide +kernel) (by decide +kernel)
theorem ft_6 : ∀ j t, (fty 6)[j]? = some t → defaultValue (tyX6 j) = if t = 0 then .int 0 else if t = 1 then .long 0 else .null := by
  intro j t h
  have hj : j < 6 := (List.getElem?_eq_some_iff.mp h).1
  match j, hj, h with
  | 0, _, h => cases h; rfl
  | 1, _, h => cases h; rfl
  | 2, _, h => cases h; rfl
  | 3, _, h => cases h; rfl
  | 4, _, h => cases h; rfl
  | 5, _, h => cases h; rfl
  | j + 6, hj, _ => omega
theorem ul_7 : ∀ w ∈ u_ws RX7 TX7 3, w ∈ TB := tb_all (by decide +kernel) (by decide +kernel)
theorem ft_7 : ∀ j t, (fty 7)[j]? = some t → defaultValue (tyX7 j) = if t = 0 then .int 0 else if t = 1 then .long 0 else .null := by
  intro j t h
  have hj : j < 3 := (List.getElem?_eq_some_iff.mp h).1
  match j, hj, h with
  | 0, _, h => cases h; rfl
  | 1, _, h => cases h; rfl
  | 2, _, h => cases h; rfl
  | j + 3, hj, _ => omega
theorem ul_8 : ∀ w ∈ u_ws RX8 TX8 2, w ∈ TB := tb_all (by decide +kernel) (by decide +kernel)
theorem ft_8 : ∀ j t, (fty 8)[j]? = some t → defaultValue (tyX8 j) = if t = 0 then .int 0 else if t = 1 then .long 0 else .null := by
  intro j t h
  have hj : j < 2 := (List.getElem?_eq_some_iff.mp h).1
  match j, hj, h with
  | 0, _, h => cases h; rfl
  | 1, _, h => cases h; rfl
  | j + 2, hj, _ => omega
theorem ul_9 : ∀ w ∈ u_ws RX9 TX9 13, w ∈ TB := tb_all (by decide +kernel) (by decide +kernel)
theorem ft_9 : ∀ j t, (fty 9)[j]? = some t → defaultValue (tyX9 j) = if t = 0 then .int 0 else if t = 1 then .long 0 else .null := by
  intro j t h
  have hj : j < 13 := (List.getElem?_eq_some_iff.mp h).1
  match j, hj, h with
  | 0, _, h => cases h; rfl
  | 1, _, h => cases h; rfl
  | 2, _, h => cases h; rfl
  | 3, _, h => cases h; rfl
  | 4, _, h => cases h; rfl
  | 5, _, h => cases h; rfl
  | 6, _, h => cases h; rfl
  | 7, _, h => cases h; rfl
  | 8, _, h => cases h; rfl
  | 9, _, h => cases h; rfl
  | 10, _, h => cases h; rfl
  | 11, _, h => cases h; rfl
  | 12, _, h => cases h; rfl
  | j + 13, hj, _ => omega
theorem ul_10 : ∀ w ∈ u_ws RX10 TX10 24, w ∈ TB := tb_all (by decide +kernel) (by decide +kernel)
theorem ft_10 : ∀ j t, (fty 10)[j]? = some t → defaultValue (tyX10 j) = if t = 0 then .int 0 else if t = 1 then .long 0 else .null := by
  intro j t h
  have hj : j < 24 := (List.getElem?_eq_some_iff.mp h).1
  match j, hj, h with
  | 0, _, h => cases h; rfl
  | 1, _, h => cases h; rfl
  | 2, _, h => cases h; rfl
  | 3, _, h => cases h; rfl
  | 4, _, h => cases h; rfl
  | 5, _, h => cases h; rfl
  | 6, _, h => cases h; rfl
  | 7, _, h => cases h; rfl
  | 8, _, h => cases h; rfl
  | 9, _, h => cases h; rfl
  | 10, _, h => cases h; rfl
  | 11, _, h => cases h; rfl
  | 12, _, h => cases h; rfl
  | 13, _, h => cases h; rfl
  | 14, _, h => cases h; rfl
  | 15, _, h => cases h; rfl
  | 16, _, h => cases h; rfl
  | 17, _, h => cases h; rfl
  | 18, _, h => cases h; rfl
  | 19, _, h => cases h; rfl
  | 20, _, h => cases h; rfl
  | 21, _, h => cases h; rfl
  | 22, _, h => cases h; rfl
  | 23, _, h => cases h; rfl
  | j + 24, hj, _ => omega
theorem it_La : Cond.initialized "FavoursGoOffLaw" ∈ TB := tb_t 0 (by decide +kernel) (by decide +kernel)
theorem it_Fa : Cond.initialized "FavoursGoOff" ∈ TB := tb_t 1 (by decide +kernel) (by decide +kernel)
theorem it_Hi : Cond.initialized "FavoursGoOff$History" ∈ TB := tb_t 2 (by decide +kernel) (by decide +kernel)
theorem it_St : Cond.initialized "FavoursGoOff$Street" ∈ TB := tb_t 3 (by decide +kernel) (by decide +kernel)
theorem it_Ta : Cond.initialized "FavoursGoOff$Table" ∈ TB := tb_t 4 (by decide +kernel) (by decide +kernel)
theorem it_JM : Cond.initialized "java/lang/Math" ∈ TB := tb_t 5 (by decide +kernel) (by decide +kernel)
theorem it_Re : Cond.initialized "FavoursGoOff$Reader" ∈ TB := tb_t 6 (by decide +kernel) (by decide +kernel)
theorem it_Te : Cond.initialized "FavoursGoOff$Text" ∈ TB := tb_t 7 (by decide +kernel) (by decide +kernel)
theorem it_De : Cond.initialized "FavoursGoOff$Debts" ∈ TB := tb_t 8 (by decide +kernel) (by decide +kernel)
theorem it_Ci : Cond.initialized "FavoursGoOff$Circle" ∈ TB := tb_t 9 (by decide +kernel) (by decide +kernel)
theorem it_Pl : Cond.initialized "FavoursGoOff$Plan" ∈ TB := tb_t 10 (by decide +kernel) (by decide +kernel)
theorem it_Fr : Cond.initialized "FavoursGoOff$Fraction" ∈ TB := tb_t 11 (by decide +kernel) (by decide +kernel)
theorem it_Mo : Cond.initialized "FavoursGoOffModel" ∈ TB := tb_t 12 (by decide +kernel) (by decide +kernel)
theorem it_JS : Cond.initialized "java/lang/String" ∈ TB := tb_t 13 (by decide +kernel) (by decide +kernel)
theorem it_JL : Cond.initialized "java/lang/StringLatin1" ∈ TB := tb_t 14 (by decide +kernel) (by decide +kernel)
theorem it_JP : Cond.initialized "jdk/internal/util/Preconditions" ∈ TB := tb_t 15 (by decide +kernel) (by decide +kernel)
theorem it_JU : Cond.initialized "java/lang/StringUTF16" ∈ TB := tb_t 16 (by decide +kernel) (by decide +kernel)
theorem it_JY : Cond.initialized "java/lang/System" ∈ TB := tb_t 17 (by decide +kernel) (by decide +kernel)
theorem cl_La_7 : Cond.classLink "FavoursGoOffLaw" 7 "FavoursGoOff" ∈ TB := tb_t 18 (by decide +kernel) (by decide +kernel)
theorem in_Fa : Cond.instantiable "FavoursGoOff" 13 ∈ TB := tb_t 19 (by decide +kernel) (by decide +kernel)
theorem ml_La_9 : Cond.methodLink "FavoursGoOffLaw" 9 y_Fa_init ∈ TB := tb_t 20 (by decide +kernel) (by decide +kernel)
theorem ml_Fa_1 : Cond.methodLink "FavoursGoOff" 1 Lib.objectInit ∈ TB := tb_t 23 (by decide +kernel) (by decide +kernel)
theorem cl_Fa_7 : Cond.classLink "FavoursGoOff" 7 "FavoursGoOff$History" ∈ TB := tb_t 26 (by decide +kernel) (by decide +kernel)
theorem in_Hi : Cond.instantiable "FavoursGoOff$History" 5 ∈ TB := tb_t 27 (by decide +kernel) (by decide +kernel)
theorem ml_Hi_3 : Cond.methodLink "FavoursGoOff$History" 3 Lib.objectInit ∈ TB := tb_t 31 (by decide +kernel) (by decide +kernel)
theorem cl_Hi_9 : Cond.classLink "FavoursGoOff$History" 9 "FavoursGoOff$Street" ∈ TB := tb_t 32 (by decide +kernel) (by decide +kernel)
theorem in_St : Cond.instantiable "FavoursGoOff$Street" 6 ∈ TB := tb_t 33 (by decide +kernel) (by decide +kernel)
theorem ml_Hi_11 : Cond.methodLink "FavoursGoOff$History" 11 y_St_init ∈ TB := tb_t 34 (by decide +kernel) (by decide +kernel)
theorem ml_St_3 : Cond.methodLink "FavoursGoOff$Street" 3 Lib.objectInit ∈ TB := tb_t 37 (by decide +kernel) (by decide +kernel)
theorem cl_St_9 : Cond.classLink "FavoursGoOff$Street" 9 "FavoursGoOff$Table" ∈ TB := tb_t 38 (by decide +kernel) (by decide +kernel)
theorem in_Ta : Cond.instantiable "FavoursGoOff$Table" 3 ∈ TB := tb_t 39 (by decide +kernel) (by decide +kernel)
theorem ml_St_11 : Cond.methodLink "FavoursGoOff$Street" 11 y_Ta_init ∈ TB := tb_t 40 (by decide +kernel) (by decide +kernel)
theorem ml_Ta_3 : Cond.methodLink "FavoursGoOff$Table" 3 Lib.objectInit ∈ TB := tb_t 43 (by decide +kernel) (by decide +kernel)
theorem ml_Ta_15 : Cond.methodLink "FavoursGoOff$Table" 15 Lib.Math.max.name ∈ TB := tb_t 44 (by decide +kernel) (by decide +kernel)
theorem fl_Ta_9 : FL "FavoursGoOff$Table" 9 7 0 0 true .int := FL.mk' "FavoursGoOff$Table" TX7 3 tyX7 rfl ul_7 tyX7_ok nmX7 (by decide) rfl rfl (fun _ _ => rfl) (tb_t 47 (by decide +kernel) (by decide +kernel)) rfl (by decide)
theorem fl_Ta_21 : FL "FavoursGoOff$Table" 21 7 1 2 true (.array .int) := FL.mk' "FavoursGoOff$Table" TX7 3 tyX7 rfl ul_7 tyX7_ok nmX7 (by decide) rfl rfl (fun _ _ => rfl) (tb_t 48 (by decide +kernel) (by decide +kernel)) rfl (by decide)
theorem fl_St_32 : FL "FavoursGoOff$Street" 32 7 2 0 false .int := FL.mk' "FavoursGoOff$Table" TX7 3 tyX7 rfl ul_7 tyX7_ok nmX7 (by decide) rfl rfl (fun h => by cases h) (tb_t 49 (by decide +kernel) (by decide +kernel)) rfl (by decide)
theorem fl_Ta_25 : FL "FavoursGoOff$Table" 25 7 2 0 false .int := FL.mk' "FavoursGoOff$Table" TX7 3 tyX7 rfl ul_7 tyX7_ok nmX7 (by decide) rfl rfl (fun h => by cases h) (tb_t 50 (by decide +kernel) (by decide +kernel)) rfl (by decide)
theorem fl_De_32 : FL "FavoursGoOff$Debts" 32 7 2 0 false .int := FL.mk' "FavoursGoOff$Table" TX7 3 tyX7 rfl ul_7 tyX7_ok nmX7 (by decide) rfl rfl (fun h => by cases h) (tb_t 51 (by decide +kernel) (by decide +kernel)) rfl (by decide)
theorem fl_Pl_51 : FL "FavoursGoOff$Plan" 51 7 2 0 false .int := FL.mk' "FavoursGoOff$Table" TX7 3 tyX7 rfl ul_7 tyX7_ok nmX7 (by decide) rfl rfl (fun h => by cases h) (tb_t 52 (by decide +kernel) (by decide +kernel)) rfl (by decide)
theorem fl_Fa_91 : FL "FavoursGoOff" 91 7 2 0 false .int := FL.mk' "FavoursGoOff$Table" TX7 3 tyX7 rfl ul_7 tyX7_ok nmX7 (by decide) rfl rfl (fun h => by cases h) (tb_t 53 (by decide +kernel) (by decide +kernel)) rfl (by decide)
theorem ac_int : Cond.arrayClass .int ∈ TB := tb_t 61 (by decide +kernel) (by decide +kernel)
theorem fl_St_14 : FL "FavoursGoOff$Street" 14 6 0 2 true (.object "FavoursGoOff$Table") := FL.mk' "FavoursGoOff$Street" TX6 6 tyX6 rfl ul_6 tyX6_ok nmX6 (by decide) rfl rfl (fun _ _ => rfl) (tb_t 62 (by decide +kernel) (by decide +kernel)) rfl (by decide)
theorem fl_De_27 : FL "FavoursGoOff$Debts" 27 6 0 2 true (.object "FavoursGoOff$Table") := FL.mk' "FavoursGoOff$Street" TX6 6 tyX6 rfl ul_6 tyX6_ok nmX6 (by decide) rfl rfl (fun _ h => absurd h (by decide)) (tb_t 63 (by decide +kernel) (by decide +kernel)) rfl (by decide)
theorem fl_Fa_87 : FL "FavoursGoOff" 87 6 0 2 true (.object "FavoursGoOff$Table") := FL.mk' "FavoursGoOff$Street" TX6 6 tyX6 rfl ul_6 tyX6_ok nmX6 (by decide) rfl rfl (fun _ h => absurd h (by decide)) (tb_t 64 (by decide +kernel) (by decide +kernel)) rfl (by decide)
theorem fl_Pl_88 : FL "FavoursGoOff$Plan" 88 6 0 2 true (.object "FavoursGoOff$Table") := FL.mk' "FavoursGoOff$Street" TX6 6 tyX6 rfl ul_6 tyX6_ok nmX6 (by decide) rfl rfl (fun _ h => absurd h (by decide)) (tb_t 65 (by decide +kernel) (by decide +kernel)) rfl (by decide)
theorem fl_Re_95 : FL "FavoursGoOff$Reader" 95 6 0 2 true (.object "FavoursGoOff$Table") := FL.mk' "FavoursGoOff$Street" TX6 6 tyX6 rfl ul_6 tyX6_ok nmX6 (by decide) rfl rfl (fun _ h => absurd h (by decide)) (tb_t 66 (by decide +kernel) (by decide +kernel)) rfl (by decide)
theorem fl_St_20 : FL "FavoursGoOff$Street" 20 6 1 2 true (.object "FavoursGoOff$Table") := FL.mk' "FavoursGoOff$Street" TX6 6 tyX6 rfl ul_6 tyX6_ok nmX6 (by decide) rfl rfl (fun _ _ => rfl) (tb_t 67 (by decide +kernel) (by decide +kernel)) rfl (by decide)
theorem fl_Pl_63 : FL "FavoursGoOff$Plan" 63 6 1 2 true (.object "FavoursGoOff$Table") := FL.mk' "FavoursGoOff$Street" TX6 6 tyX6 rfl ul_6 tyX6_ok nmX6 (by decide) rfl rfl (fun _ h => absurd h (by decide)) (tb_t 68 (by decide +kernel) (by decide +kernel)) rfl (by decide)
theorem fl_De_47 : FL "FavoursGoOff$Debts" 47 6 1 2 true (.object "FavoursGoOff$Table") := FL.mk' "FavoursGoOff$Street" TX6 6 tyX6 rfl ul_6 tyX6_ok nmX6 (by decide) rfl rfl (fun _ h => absurd h (by decide)) (tb_t 69 (by decide +kernel) (by decide +kernel)) rfl (by decide)
theorem fl_Re_74 : FL "FavoursGoOff$Reader" 74 6 1 2 true (.object "FavoursGoOff$Table") := FL.mk' "FavoursGoOff$Street" TX6 6 tyX6 rfl ul_6 tyX6_ok nmX6 (by decide) rfl rfl (fun _ h => absurd h (by decide)) (tb_t 70 (by decide +kernel) (by decide +kernel)) rfl (by decide)
theorem fl_Fa_122 : FL "FavoursGoOff" 122 6 1 2 true (.object "FavoursGoOff$Table") := FL.mk' "FavoursGoOff$Street" TX6 6 tyX6 rfl ul_6 tyX6_ok nmX6 (by decide) rfl rfl (fun _ h => absurd h (by decide)) (tb_t 71 (by decide +kernel) (by decide +kernel)) rfl (by decide)
theorem fl_St_23 : FL "FavoursGoOff$Street" 23 6 2 2 true (.object "FavoursGoOff$Table") := FL.mk' "FavoursGoOff$Street" TX6 6 tyX6 rfl ul_6 tyX6_ok nmX6 (by decide) rfl rfl (fun _ _ => rfl) (tb_t 72 (by decide +kernel) (by decide +kernel)) rfl (by decide)
theorem fl_Pl_46 : FL "FavoursGoOff$Plan" 46 6 2 2 true (.object "FavoursGoOff$Table") := FL.mk' "FavoursGoOff$Street" TX6 6 tyX6 rfl ul_6 tyX6_ok nmX6 (by decide) rfl rfl (fun _ h => absurd h (by decide)) (tb_t 73 (by decide +kernel) (by decide +kernel)) rfl (by decide)
theorem fl_Re_89 : FL "FavoursGoOff$Reader" 89 6 2 2 true (.object "FavoursGoOff$Table") := FL.mk' "FavoursGoOff$Street" TX6 6 tyX6 rfl ul_6 tyX6_ok nmX6 (by decide) rfl rfl (fun _ h => absurd h (by decide)) (tb_t 74 (by decide +kernel) (by decide +kernel)) rfl (by decide)
theorem fl_Fa_140 : FL "FavoursGoOff" 140 6 2 2 true (.object "FavoursGoOff$Table") := FL.mk' "FavoursGoOff$Street" TX6 6 tyX6 rfl ul_6 tyX6_ok nmX6 (by decide) rfl rfl (fun _ h => absurd h (by decide)) (tb_t 75 (by decide +kernel) (by decide +kernel)) rfl (by decide)
theorem fl_St_26 : FL "FavoursGoOff$Street" 26 6 3 2 true (.object "FavoursGoOff$Table") := FL.mk' "FavoursGoOff$Street" TX6 6 tyX6 rfl ul_6 tyX6_ok nmX6 (by decide) rfl rfl (fun _ _ => rfl) (tb_t 76 (by decide +kernel) (by decide +kernel)) rfl (by decide)
theorem fl_Fa_261 : FL "FavoursGoOff" 261 6 3 2 true (.object "FavoursGoOff$Table") := FL.mk' "FavoursGoOff$Street" TX6 6 tyX6 rfl ul_6 tyX6_ok nmX6 (by decide) rfl rfl (fun _ h => absurd h (by decide)) (tb_t 77 (by decide +kernel) (by decide +kernel)) rfl (by decide)
theorem fl_St_29 : FL "FavoursGoOff$Street" 29 6 4 2 true (.object "FavoursGoOff$Table") := FL.mk' "FavoursGoOff$Street" TX6 6 tyX6 rfl ul_6 tyX6_ok nmX6 (by decide) rfl rfl (fun _ _ => rfl) (tb_t 78 (by decide +kernel) (by decide +kernel)) rfl (by decide)
theorem fl_St_47 : FL "FavoursGoOff$Street" 47 6 5 0 false .int := FL.mk' "FavoursGoOff$Street" TX6 6 tyX6 rfl ul_6 tyX6_ok nmX6 (by decide) rfl rfl (fun h => by cases h) (tb_t 79 (by decide +kernel) (by decide +kernel)) rfl (by decide)
theorem fl_Fa_187 : FL "FavoursGoOff" 187 6 5 0 false .int := FL.mk' "FavoursGoOff$Street" TX6 6 tyX6 rfl ul_6 tyX6_ok nmX6 (by decide) rfl rfl (fun h => by cases h) (tb_t 80 (by decide +kernel) (by decide +kernel)) rfl (by decide)
theorem fl_Hi_12 : FL "FavoursGoOff$History" 12 3 0 2 true (.object "FavoursGoOff$Street") := FL.mk' "FavoursGoOff$History" TX3 5 tyX3 rfl ul_3 tyX3_ok nmX3 (by decide) rfl rfl (fun _ _ => rfl) (tb_t 94 (by decide +kernel) (by decide +kernel)) rfl (by decide)
theorem fl_Fa_22 : FL "FavoursGoOff" 22 3 0 2 true (.object "FavoursGoOff$Street") := FL.mk' "FavoursGoOff$History" TX3 5 tyX3 rfl ul_3 tyX3_ok nmX3 (by decide) rfl rfl (fun _ h => absurd h (by decide)) (tb_t 95 (by decide +kernel) (by decide +kernel)) rfl (by decide)
theorem fl_Hi_18 : FL "FavoursGoOff$History" 18 3 1 2 true (.object "FavoursGoOff$Street") := FL.mk' "FavoursGoOff$History" TX3 5 tyX3 rfl ul_3 tyX3_ok nmX3 (by decide) rfl rfl (fun _ _ => rfl) (tb_t 96 (by decide +kernel) (by decide +kernel)) rfl (by decide)
theorem fl_Hi_21 : FL "FavoursGoOff$History" 21 3 2 2 true (.object "FavoursGoOff$Street") := FL.mk' "FavoursGoOff$History" TX3 5 tyX3 rfl ul_3 tyX3_ok nmX3 (by decide) rfl rfl (fun _ _ => rfl) (tb_t 97 (by decide +kernel) (by decide +kernel)) rfl (by decide)
theorem fl_Hi_28 : FL "FavoursGoOff$History" 28 3 3 0 false .int := FL.mk' "FavoursGoOff$History" TX3 5 tyX3 rfl ul_3 tyX3_ok nmX3 (by decide) rfl rfl (fun h => by cases h) (tb_t 98 (by decide +kernel) (by decide +kernel)) rfl (by decide)
theorem fl_Fa_97 : FL "FavoursGoOff" 97 3 3 0 false .int := FL.mk' "FavoursGoOff$History" TX3 5 tyX3 rfl ul_3 tyX3_ok nmX3 (by decide) rfl rfl (fun h => by cases h) (tb_t 99 (by decide +kernel) (by decide +kernel)) rfl (by decide)
theorem fl_Fa_297 : FL "FavoursGoOff" 297 3 4 0 false .boolean := FL.mk' "FavoursGoOff$History" TX3 5 tyX3 rfl ul_3 tyX3_ok nmX3 (by decide) rfl rfl (fun h => by cases h) (tb_t 100 (by decide +kernel) (by decide +kernel)) rfl (by decide)
theorem cl_Fa_29 : Cond.classLink "FavoursGoOff" 29 "FavoursGoOff$Reader" ∈ TB := tb_t 112 (by decide +kernel) (by decide +kernel)
theorem in_Re : Cond.instantiable "FavoursGoOff$Reader" 8 ∈ TB := tb_t 113 (by decide +kernel) (by decide +kernel)
theorem ml_Re_3 : Cond.methodLink "FavoursGoOff$Reader" 3 Lib.objectInit ∈ TB := tb_t 117 (by decide +kernel) (by decide +kernel)
theorem cl_Re_9 : Cond.classLink "FavoursGoOff$Reader" 9 "FavoursGoOff$Text" ∈ TB := tb_t 118 (by decide +kernel) (by decide +kernel)
theorem in_Te : Cond.instantiable "FavoursGoOff$Text" 2 ∈ TB := tb_t 119 (by decide +kernel) (by decide +kernel)
theorem ml_Te_3 : Cond.methodLink "FavoursGoOff$Text" 3 Lib.objectInit ∈ TB := tb_t 123 (by decide +kernel) (by decide +kernel)
theorem fl_Te_9 : FL "FavoursGoOff$Text" 9 8 0 2 true (.array .int) := FL.mk' "FavoursGoOff$Text" TX8 2 tyX8 rfl ul_8 tyX8_ok nmX8 (by decide) rfl rfl (fun _ _ => rfl) (tb_t 124 (by decide +kernel) (by decide +kernel)) rfl (by decide)
theorem fl_Te_15 : FL "FavoursGoOff$Text" 15 8 1 0 false .int := FL.mk' "FavoursGoOff$Text" TX8 2 tyX8 rfl ul_8 tyX8_ok nmX8 (by decide) rfl rfl (fun h => by cases h) (tb_t 125 (by decide +kernel) (by decide +kernel)) rfl (by decide)
theorem fl_Fa_150 : FL "FavoursGoOff" 150 8 1 0 false .int := FL.mk' "FavoursGoOff$Text" TX8 2 tyX8 rfl ul_8 tyX8_ok nmX8 (by decide) rfl rfl (fun h => by cases h) (tb_t 126 (by decide +kernel) (by decide +kernel)) rfl (by decide)
theorem fl_Re_118 : FL "FavoursGoOff$Reader" 118 8 1 0 false .int := FL.mk' "FavoursGoOff$Text" TX8 2 tyX8 rfl ul_8 tyX8_ok nmX8 (by decide) rfl rfl (fun h => by cases h) (tb_t 127 (by decide +kernel) (by decide +kernel)) rfl (by decide)
theorem cl_Re_18 : Cond.classLink "FavoursGoOff$Reader" 18 "FavoursGoOff$Street" ∈ TB := tb_t 133 (by decide +kernel) (by decide +kernel)
theorem ml_Re_20 : Cond.methodLink "FavoursGoOff$Reader" 20 y_St_init ∈ TB := tb_t 134 (by decide +kernel) (by decide +kernel)
theorem fl_Re_12 : FL "FavoursGoOff$Reader" 12 5 0 2 true (.object "FavoursGoOff$Text") := FL.mk' "FavoursGoOff$Reader" TX5 8 tyX5 rfl ul_5 tyX5_ok nmX5 (by decide) rfl rfl (fun _ _ => rfl) (tb_t 135 (by decide +kernel) (by decide +kernel)) rfl (by decide)
theorem fl_Fa_36 : FL "FavoursGoOff" 36 5 0 2 true (.object "FavoursGoOff$Text") := FL.mk' "FavoursGoOff$Reader" TX5 8 tyX5 rfl ul_5 tyX5_ok nmX5 (by decide) rfl rfl (fun _ h => absurd h (by decide)) (tb_t 136 (by decide +kernel) (by decide +kernel)) rfl (by decide)
theorem fl_Re_21 : FL "FavoursGoOff$Reader" 21 5 1 2 true (.object "FavoursGoOff$Street") := FL.mk' "FavoursGoOff$Reader" TX5 8 tyX5 rfl ul_5 tyX5_ok nmX5 (by decide) rfl rfl (fun _ _ => rfl) (tb_t 137 (by decide +kernel) (by decide +kernel)) rfl (by decide)
theorem fl_Fa_164 : FL "FavoursGoOff" 164 5 1 2 true (.object "FavoursGoOff$Street") := FL.mk' "FavoursGoOff$Reader" TX5 8 tyX5 rfl ul_5 tyX5_ok nmX5 (by decide) rfl rfl (fun _ h => absurd h (by decide)) (tb_t 138 (by decide +kernel) (by decide +kernel)) rfl (by decide)
theorem fl_Re_25 : FL "FavoursGoOff$Reader" 25 5 2 0 false .int := FL.mk' "FavoursGoOff$Reader" TX5 8 tyX5 rfl ul_5 tyX5_ok nmX5 (by decide) rfl rfl (fun h => by cases h) (tb_t 139 (by decide +kernel) (by decide +kernel)) rfl (by decide)
theorem fl_Fa_161 : FL "FavoursGoOff" 161 5 2 0 false .int := FL.mk' "FavoursGoOff$Reader" TX5 8 tyX5 rfl ul_5 tyX5_ok nmX5 (by decide) rfl rfl (fun h => by cases h) (tb_t 140 (by decide +kernel) (by decide +kernel)) rfl (by decide)
theorem fl_Re_38 : FL "FavoursGoOff$Reader" 38 5 3 0 false .int := FL.mk' "FavoursGoOff$Reader" TX5 8 tyX5 rfl ul_5 tyX5_ok nmX5 (by decide) rfl rfl (fun h => by cases h) (tb_t 141 (by decide +kernel) (by decide +kernel)) rfl (by decide)
theorem fl_Re_115 : FL "FavoursGoOff$Reader" 115 5 4 0 false .int := FL.mk' "FavoursGoOff$Reader" TX5 8 tyX5 rfl ul_5 tyX5_ok nmX5 (by decide) rfl rfl (fun h => by cases h) (tb_t 142 (by decide +kernel) (by decide +kernel)) rfl (by decide)
theorem fl_Re_29 : FL "FavoursGoOff$Reader" 29 5 5 0 false .int := FL.mk' "FavoursGoOff$Reader" TX5 8 tyX5 rfl ul_5 tyX5_ok nmX5 (by decide) rfl rfl (fun h => by cases h) (tb_t 143 (by decide +kernel) (by decide +kernel)) rfl (by decide)
theorem fl_Re_112 : FL "FavoursGoOff$Reader" 112 5 6 0 false .int := FL.mk' "FavoursGoOff$Reader" TX5 8 tyX5 rfl ul_5 tyX5_ok nmX5 (by decide) rfl rfl (fun h => by cases h) (tb_t 144 (by decide +kernel) (by decide +kernel)) rfl (by decide)
theorem fl_Re_64 : FL "FavoursGoOff$Reader" 64 5 7 0 false .int := FL.mk' "FavoursGoOff$Reader" TX5 8 tyX5 rfl ul_5 tyX5_ok nmX5 (by decide) rfl rfl (fun h => by cases h) (tb_t 145 (by decide +kernel) (by decide +kernel)) rfl (by decide)
theorem cl_Fa_41 : Cond.classLink "FavoursGoOff" 41 "FavoursGoOff$Debts" ∈ TB := tb_t 163 (by decide +kernel) (by decide +kernel)
theorem in_De : Cond.instantiable "FavoursGoOff$Debts" 6 ∈ TB := tb_t 164 (by decide +kernel) (by decide +kernel)
theorem ml_De_3 : Cond.methodLink "FavoursGoOff$Debts" 3 Lib.objectInit ∈ TB := tb_t 168 (by decide +kernel) (by decide +kernel)
theorem cl_De_9 : Cond.classLink "FavoursGoOff$Debts" 9 "FavoursGoOff$Table" ∈ TB := tb_t 169 (by decide +kernel) (by decide +kernel)
theorem ml_De_11 : Cond.methodLink "FavoursGoOff$Debts" 11 y_Ta_init ∈ TB := tb_t 170 (by decide +kernel) (by decide +kernel)
theorem fl_De_14 : FL "FavoursGoOff$Debts" 14 1 0 2 true (.object "FavoursGoOff$Table") := FL.mk' "FavoursGoOff$Debts" TX1 6 tyX1 rfl ul_1 tyX1_ok nmX1 (by decide) rfl rfl (fun _ _ => rfl) (tb_t 171 (by decide +kernel) (by decide +kernel)) rfl (by decide)
theorem fl_De_20 : FL "FavoursGoOff$Debts" 20 1 1 2 true (.array .int) := FL.mk' "FavoursGoOff$Debts" TX1 6 tyX1 rfl ul_1 tyX1_ok nmX1 (by decide) rfl rfl (fun _ _ => rfl) (tb_t 172 (by decide +kernel) (by decide +kernel)) rfl (by decide)
theorem fl_De_24 : FL "FavoursGoOff$Debts" 24 1 2 2 true (.array .int) := FL.mk' "FavoursGoOff$Debts" TX1 6 tyX1 rfl ul_1 tyX1_ok nmX1 (by decide) rfl rfl (fun _ _ => rfl) (tb_t 173 (by decide +kernel) (by decide +kernel)) rfl (by decide)
theorem fl_Ci_19 : FL "FavoursGoOff$Circle" 19 1 3 0 false .int := FL.mk' "FavoursGoOff$Debts" TX1 6 tyX1 rfl ul_1 tyX1_ok nmX1 (by decide) rfl rfl (fun h => by cases h) (tb_t 174 (by decide +kernel) (by decide +kernel)) rfl (by decide)
theorem fl_De_42 : FL "FavoursGoOff$Debts" 42 1 3 0 false .int := FL.mk' "FavoursGoOff$Debts" TX1 6 tyX1 rfl ul_1 tyX1_ok nmX1 (by decide) rfl rfl (fun h => by cases h) (tb_t 175 (by decide +kernel) (by decide +kernel)) rfl (by decide)
theorem fl_De_76 : FL "FavoursGoOff$Debts" 76 1 4 0 false .int := FL.mk' "FavoursGoOff$Debts" TX1 6 tyX1 rfl ul_1 tyX1_ok nmX1 (by decide) rfl rfl (fun h => by cases h) (tb_t 176 (by decide +kernel) (by decide +kernel)) rfl (by decide)
theorem fl_Fa_238 : FL "FavoursGoOff" 238 1 4 0 false .int := FL.mk' "FavoursGoOff$Debts" TX1 6 tyX1 rfl ul_1 tyX1_ok nmX1 (by decide) rfl rfl (fun h => by cases h) (tb_t 177 (by decide +kernel) (by decide +kernel)) rfl (by decide)
theorem fl_De_79 : FL "FavoursGoOff$Debts" 79 1 5 0 false .int := FL.mk' "FavoursGoOff$Debts" TX1 6 tyX1 rfl ul_1 tyX1_ok nmX1 (by decide) rfl rfl (fun h => by cases h) (tb_t 178 (by decide +kernel) (by decide +kernel)) rfl (by decide)
theorem fl_Fa_241 : FL "FavoursGoOff" 241 1 5 0 false .int := FL.mk' "FavoursGoOff$Debts" TX1 6 tyX1 rfl ul_1 tyX1_ok nmX1 (by decide) rfl rfl (fun h => by cases h) (tb_t 179 (by decide +kernel) (by decide +kernel)) rfl (by decide)
theorem cl_Fa_48 : Cond.classLink "FavoursGoOff" 48 "FavoursGoOff$Circle" ∈ TB := tb_t 193 (by decide +kernel) (by decide +kernel)
theorem in_Ci : Cond.instantiable "FavoursGoOff$Circle" 2 ∈ TB := tb_t 194 (by decide +kernel) (by decide +kernel)
theorem ml_Ci_3 : Cond.methodLink "FavoursGoOff$Circle" 3 Lib.objectInit ∈ TB := tb_t 198 (by decide +kernel) (by decide +kernel)
theorem fl_Ci_9 : FL "FavoursGoOff$Circle" 9 0 0 2 true (.array .int) := FL.mk' "FavoursGoOff$Circle" TX0 2 tyX0 rfl ul_0 tyX0_ok nmX0 (by decide) rfl rfl (fun _ _ => rfl) (tb_t 199 (by decide +kernel) (by decide +kernel)) rfl (by decide)
theorem fl_Ci_15 : FL "FavoursGoOff$Circle" 15 0 1 0 false .int := FL.mk' "FavoursGoOff$Circle" TX0 2 tyX0 rfl ul_0 tyX0_ok nmX0 (by decide) rfl rfl (fun h => by cases h) (tb_t 200 (by decide +kernel) (by decide +kernel)) rfl (by decide)
theorem fl_Fa_209 : FL "FavoursGoOff" 209 0 1 0 false .int := FL.mk' "FavoursGoOff$Circle" TX0 2 tyX0 rfl ul_0 tyX0_ok nmX0 (by decide) rfl rfl (fun h => by cases h) (tb_t 201 (by decide +kernel) (by decide +kernel)) rfl (by decide)
theorem cl_Fa_55 : Cond.classLink "FavoursGoOff" 55 "FavoursGoOff$Plan" ∈ TB := tb_t 207 (by decide +kernel) (by decide +kernel)
theorem in_Pl : Cond.instantiable "FavoursGoOff$Plan" 13 ∈ TB := tb_t 208 (by decide +kernel) (by decide +kernel)
theorem ml_Pl_3 : Cond.methodLink "FavoursGoOff$Plan" 3 Lib.objectInit ∈ TB := tb_t 212 (by decide +kernel) (by decide +kernel)
theorem cl_Pl_15 : Cond.classLink "FavoursGoOff$Plan" 15 "FavoursGoOff$Table" ∈ TB := tb_t 213 (by decide +kernel) (by decide +kernel)
theorem ml_Pl_17 : Cond.methodLink "FavoursGoOff$Plan" 17 y_Ta_init ∈ TB := tb_t 214 (by decide +kernel) (by decide +kernel)
theorem fl_Pl_9 : FL "FavoursGoOff$Plan" 9 4 0 0 false .boolean := FL.mk' "FavoursGoOff$Plan" TX4 13 tyX4 rfl ul_4 tyX4_ok nmX4 (by decide) rfl rfl (fun h => by cases h) (tb_t 215 (by decide +kernel) (by decide +kernel)) rfl (by decide)
theorem fl_Fa_100 : FL "FavoursGoOff" 100 4 0 0 false .boolean := FL.mk' "FavoursGoOff$Plan" TX4 13 tyX4 rfl ul_4 tyX4_ok nmX4 (by decide) rfl rfl (fun h => by cases h) (tb_t 216 (by decide +kernel) (by decide +kernel)) rfl (by decide)
theorem fl_Pl_78 : FL "FavoursGoOff$Plan" 78 4 1 0 false .int := FL.mk' "FavoursGoOff$Plan" TX4 13 tyX4 rfl ul_4 tyX4_ok nmX4 (by decide) rfl rfl (fun h => by cases h) (tb_t 217 (by decide +kernel) (by decide +kernel)) rfl (by decide)
theorem fl_Fa_225 : FL "FavoursGoOff" 225 4 1 0 false .int := FL.mk' "FavoursGoOff$Plan" TX4 13 tyX4 rfl ul_4 tyX4_ok nmX4 (by decide) rfl rfl (fun h => by cases h) (tb_t 218 (by decide +kernel) (by decide +kernel)) rfl (by decide)
theorem fl_Pl_81 : FL "FavoursGoOff$Plan" 81 4 2 0 false .int := FL.mk' "FavoursGoOff$Plan" TX4 13 tyX4 rfl ul_4 tyX4_ok nmX4 (by decide) rfl rfl (fun h => by cases h) (tb_t 219 (by decide +kernel) (by decide +kernel)) rfl (by decide)
theorem fl_Fa_228 : FL "FavoursGoOff" 228 4 2 0 false .int := FL.mk' "FavoursGoOff$Plan" TX4 13 tyX4 rfl ul_4 tyX4_ok nmX4 (by decide) rfl rfl (fun h => by cases h) (tb_t 220 (by decide +kernel) (by decide +kernel)) rfl (by decide)
theorem fl_Pl_61 : FL "FavoursGoOff$Plan" 61 4 3 0 false .int := FL.mk' "FavoursGoOff$Plan" TX4 13 tyX4 rfl ul_4 tyX4_ok nmX4 (by decide) rfl rfl (fun h => by cases h) (tb_t 221 (by decide +kernel) (by decide +kernel)) rfl (by decide)
theorem fl_Pl_66 : FL "FavoursGoOff$Plan" 66 4 4 0 false .int := FL.mk' "FavoursGoOff$Plan" TX4 13 tyX4 rfl ul_4 tyX4_ok nmX4 (by decide) rfl rfl (fun h => by cases h) (tb_t 222 (by decide +kernel) (by decide +kernel)) rfl (by decide)
theorem fl_Pl_20 : FL "FavoursGoOff$Plan" 20 4 5 2 true (.object "FavoursGoOff$Table") := FL.mk' "FavoursGoOff$Plan" TX4 13 tyX4 rfl ul_4 tyX4_ok nmX4 (by decide) rfl rfl (fun _ _ => rfl) (tb_t 223 (by decide +kernel) (by decide +kernel)) rfl (by decide)
theorem fl_Pl_24 : FL "FavoursGoOff$Plan" 24 4 6 2 true (.object "FavoursGoOff$Table") := FL.mk' "FavoursGoOff$Plan" TX4 13 tyX4 rfl ul_4 tyX4_ok nmX4 (by decide) rfl rfl (fun _ _ => rfl) (tb_t 224 (by decide +kernel) (by decide +kernel)) rfl (by decide)
theorem fl_Pl_27 : FL "FavoursGoOff$Plan" 27 4 7 2 true (.array .int) := FL.mk' "FavoursGoOff$Plan" TX4 13 tyX4 rfl ul_4 tyX4_ok nmX4 (by decide) rfl rfl (fun _ _ => rfl) (tb_t 225 (by decide +kernel) (by decide +kernel)) rfl (by decide)
theorem fl_Pl_31 : FL "FavoursGoOff$Plan" 31 4 8 2 true (.array .int) := FL.mk' "FavoursGoOff$Plan" TX4 13 tyX4 rfl ul_4 tyX4_ok nmX4 (by decide) rfl rfl (fun _ _ => rfl) (tb_t 226 (by decide +kernel) (by decide +kernel)) rfl (by decide)
theorem fl_Pl_34 : FL "FavoursGoOff$Plan" 34 4 9 2 true (.array .int) := FL.mk' "FavoursGoOff$Plan" TX4 13 tyX4 rfl ul_4 tyX4_ok nmX4 (by decide) rfl rfl (fun _ _ => rfl) (tb_t 227 (by decide +kernel) (by decide +kernel)) rfl (by decide)
theorem fl_Pl_37 : FL "FavoursGoOff$Plan" 37 4 10 2 true (.array .int) := FL.mk' "FavoursGoOff$Plan" TX4 13 tyX4 rfl ul_4 tyX4_ok nmX4 (by decide) rfl rfl (fun _ _ => rfl) (tb_t 228 (by decide +kernel) (by decide +kernel)) rfl (by decide)
theorem fl_Pl_40 : FL "FavoursGoOff$Plan" 40 4 11 2 true (.array .int) := FL.mk' "FavoursGoOff$Plan" TX4 13 tyX4 rfl ul_4 tyX4_ok nmX4 (by decide) rfl rfl (fun _ _ => rfl) (tb_t 229 (by decide +kernel) (by decide +kernel)) rfl (by decide)
theorem fl_Pl_43 : FL "FavoursGoOff$Plan" 43 4 12 2 true (.array .int) := FL.mk' "FavoursGoOff$Plan" TX4 13 tyX4 rfl ul_4 tyX4_ok nmX4 (by decide) rfl rfl (fun _ _ => rfl) (tb_t 230 (by decide +kernel) (by decide +kernel)) rfl (by decide)
theorem cl_Fa_62 : Cond.classLink "FavoursGoOff" 62 "FavoursGoOff$Fraction" ∈ TB := tb_t 258 (by decide +kernel) (by decide +kernel)
theorem in_Fr : Cond.instantiable "FavoursGoOff$Fraction" 2 ∈ TB := tb_t 259 (by decide +kernel) (by decide +kernel)
theorem ml_Fr_1 : Cond.methodLink "FavoursGoOff$Fraction" 1 Lib.objectInit ∈ TB := tb_t 263 (by decide +kernel) (by decide +kernel)
theorem fl_Fr_17 : FL "FavoursGoOff$Fraction" 17 2 0 1 false .long := FL.mk' "FavoursGoOff$Fraction" TX2 2 tyX2 rfl ul_2 tyX2_ok nmX2 (by decide) rfl rfl (fun h => by cases h) (tb_t 264 (by decide +kernel) (by decide +kernel)) rfl (by decide)
theorem fl_Fa_282 : FL "FavoursGoOff" 282 2 0 1 false .long := FL.mk' "FavoursGoOff$Fraction" TX2 2 tyX2 rfl ul_2 tyX2_ok nmX2 (by decide) rfl rfl (fun h => by cases h) (tb_t 265 (by decide +kernel) (by decide +kernel)) rfl (by decide)
theorem fl_Fr_7 : FL "FavoursGoOff$Fraction" 7 2 1 1 false .long := FL.mk' "FavoursGoOff$Fraction" TX2 2 tyX2 rfl ul_2 tyX2_ok nmX2 (by decide) rfl rfl (fun h => by cases h) (tb_t 266 (by decide +kernel) (by decide +kernel)) rfl (by decide)
theorem fl_Fa_286 : FL "FavoursGoOff" 286 2 1 1 false .long := FL.mk' "FavoursGoOff$Fraction" TX2 2 tyX2 rfl ul_2 tyX2_ok nmX2 (by decide) rfl rfl (fun h => by cases h) (tb_t 267 (by decide +kernel) (by decide +kernel)) rfl (by decide)
theorem ml_Fa_69 : Cond.methodLink "FavoursGoOff" 69 y_St_open ∈ TB := tb_t 273 (by decide +kernel) (by decide +kernel)
theorem ml_St_36 : Cond.methodLink "FavoursGoOff$Street" 36 y_Ta_empty ∈ TB := tb_t 277 (by decide +kernel) (by decide +kernel)
theorem ml_St_40 : Cond.methodLink "FavoursGoOff$Street" 40 y_Ta_add ∈ TB := tb_t 281 (by decide +kernel) (by decide +kernel)
theorem ml_Ta_38 : Cond.methodLink "FavoursGoOff$Table" 38 y_Ta_isFull ∈ TB := tb_t 285 (by decide +kernel) (by decide +kernel)
theorem ml_St_43 : Cond.methodLink "FavoursGoOff$Street" 43 y_Ta_put ∈ TB := tb_t 289 (by decide +kernel) (by decide +kernel)
theorem ml_Ta_28 : Cond.methodLink "FavoursGoOff$Table" 28 y_Ta_placeOf ∈ TB := tb_t 293 (by decide +kernel) (by decide +kernel)
theorem ml_Fa_75 : Cond.methodLink "FavoursGoOff" 75 y_St_setRate ∈ TB := tb_t 297 (by decide +kernel) (by decide +kernel)
theorem fl_Fa_10 : FL "FavoursGoOff" 10 9 0 2 true (.object "FavoursGoOff$History") := FL.mk' "FavoursGoOff" TX9 13 tyX9 rfl ul_9 tyX9_ok nmX9 (by decide) rfl rfl (fun _ _ => rfl) (tb_t 301 (by decide +kernel) (by decide +kernel)) rfl (by decide)
theorem fl_Fa_16 : FL "FavoursGoOff" 16 9 1 2 true (.object "FavoursGoOff$History") := FL.mk' "FavoursGoOff" TX9 13 tyX9 rfl ul_9 tyX9_ok nmX9 (by decide) rfl rfl (fun _ _ => rfl) (tb_t 302 (by decide +kernel) (by decide +kernel)) rfl (by decide)
theorem fl_Fa_19 : FL "FavoursGoOff" 19 9 2 2 true (.object "FavoursGoOff$History") := FL.mk' "FavoursGoOff" TX9 13 tyX9 rfl ul_9 tyX9_ok nmX9 (by decide) rfl rfl (fun _ _ => rfl) (tb_t 303 (by decide +kernel) (by decide +kernel)) rfl (by decide)
theorem fl_Fa_26 : FL "FavoursGoOff" 26 9 3 2 true (.object "FavoursGoOff$Street") := FL.mk' "FavoursGoOff" TX9 13 tyX9 rfl ul_9 tyX9_ok nmX9 (by decide) rfl rfl (fun _ _ => rfl) (tb_t 304 (by decide +kernel) (by decide +kernel)) rfl (by decide)
theorem fl_Fa_32 : FL "FavoursGoOff" 32 9 4 2 true (.object "FavoursGoOff$Reader") := FL.mk' "FavoursGoOff" TX9 13 tyX9 rfl ul_9 tyX9_ok nmX9 (by decide) rfl rfl (fun _ _ => rfl) (tb_t 305 (by decide +kernel) (by decide +kernel)) rfl (by decide)
theorem fl_Fa_40 : FL "FavoursGoOff" 40 9 5 2 true (.object "FavoursGoOff$Text") := FL.mk' "FavoursGoOff" TX9 13 tyX9 rfl ul_9 tyX9_ok nmX9 (by decide) rfl rfl (fun _ _ => rfl) (tb_t 306 (by decide +kernel) (by decide +kernel)) rfl (by decide)
theorem fl_Fa_44 : FL "FavoursGoOff" 44 9 6 2 true (.object "FavoursGoOff$Debts") := FL.mk' "FavoursGoOff" TX9 13 tyX9 rfl ul_9 tyX9_ok nmX9 (by decide) rfl rfl (fun _ _ => rfl) (tb_t 307 (by decide +kernel) (by decide +kernel)) rfl (by decide)
theorem fl_Fa_51 : FL "FavoursGoOff" 51 9 7 2 true (.object "FavoursGoOff$Circle") := FL.mk' "FavoursGoOff" TX9 13 tyX9 rfl ul_9 tyX9_ok nmX9 (by decide) rfl rfl (fun _ _ => rfl) (tb_t 308 (by decide +kernel) (by decide +kernel)) rfl (by decide)
theorem fl_Fa_58 : FL "FavoursGoOff" 58 9 8 2 true (.object "FavoursGoOff$Plan") := FL.mk' "FavoursGoOff" TX9 13 tyX9 rfl ul_9 tyX9_ok nmX9 (by decide) rfl rfl (fun _ _ => rfl) (tb_t 309 (by decide +kernel) (by decide +kernel)) rfl (by decide)
theorem fl_Fa_65 : FL "FavoursGoOff" 65 9 9 2 true (.object "FavoursGoOff$Fraction") := FL.mk' "FavoursGoOff" TX9 13 tyX9 rfl ul_9 tyX9_ok nmX9 (by decide) rfl rfl (fun _ _ => rfl) (tb_t 310 (by decide +kernel) (by decide +kernel)) rfl (by decide)
theorem fl_Fa_300 : FL "FavoursGoOff" 300 9 10 0 false .int := FL.mk' "FavoursGoOff" TX9 13 tyX9 rfl ul_9 tyX9_ok nmX9 (by decide) rfl rfl (fun h => by cases h) (tb_t 311 (by decide +kernel) (by decide +kernel)) rfl (by decide)
theorem fl_Fa_303 : FL "FavoursGoOff" 303 9 11 0 false .int := FL.mk' "FavoursGoOff" TX9 13 tyX9 rfl ul_9 tyX9_ok nmX9 (by decide) rfl rfl (fun h => by cases h) (tb_t 312 (by decide +kernel) (by decide +kernel)) rfl (by decide)
theorem fl_Fa_306 : FL "FavoursGoOff" 306 9 12 0 false .int := FL.mk' "FavoursGoOff" TX9 13 tyX9 rfl ul_9 tyX9_ok nmX9 (by decide) rfl rfl (fun h => by cases h) (tb_t 313 (by decide +kernel) (by decide +kernel)) rfl (by decide)
theorem ml_La_13 : Cond.methodLink "FavoursGoOffLaw" 13 y_Fa_people ∈ TB := tb_t 341 (by decide +kernel) (by decide +kernel)
theorem ml_Fa_79 : Cond.methodLink "FavoursGoOff" 79 y_Fa_isWithin ∈ TB := tb_t 345 (by decide +kernel) (by decide +kernel)
theorem ml_Fa_83 : Cond.methodLink "FavoursGoOff" 83 y_Fa_bad ∈ TB := tb_t 348 (by decide +kernel) (by decide +kernel)
theorem ml_La_18 : Cond.methodLink "FavoursGoOffLaw" 18 y_Fa_strong ∈ TB := tb_t 352 (by decide +kernel) (by decide +kernel)
theorem ml_Fa_104 : Cond.methodLink "FavoursGoOff" 104 y_Ta_has ∈ TB := tb_t 356 (by decide +kernel) (by decide +kernel)
theorem ml_Fa_108 : Cond.methodLink "FavoursGoOff" 108 y_Ta_at ∈ TB := tb_t 360 (by decide +kernel) (by decide +kernel)
theorem ml_Fa_112 : Cond.methodLink "FavoursGoOff" 112 y_Ta_put ∈ TB := tb_t 364 (by decide +kernel) (by decide +kernel)
theorem ml_La_23 : Cond.methodLink "FavoursGoOffLaw" 23 y_Fa_favour ∈ TB := tb_t 365 (by decide +kernel) (by decide +kernel)
theorem ml_Fa_116 : Cond.methodLink "FavoursGoOff" 116 y_Fa_isThing ∈ TB := tb_t 369 (by decide +kernel) (by decide +kernel)
theorem ml_Fa_119 : Cond.methodLink "FavoursGoOff" 119 y_Fa_isDay ∈ TB := tb_t 372 (by decide +kernel) (by decide +kernel)
theorem ml_Fa_125 : Cond.methodLink "FavoursGoOff" 125 y_Ta_isFull ∈ TB := tb_t 375 (by decide +kernel) (by decide +kernel)
theorem ml_Fa_129 : Cond.methodLink "FavoursGoOff" 129 y_Fa_full ∈ TB := tb_t 376 (by decide +kernel) (by decide +kernel)
theorem ml_Fa_133 : Cond.methodLink "FavoursGoOff" 133 y_St_addFavour ∈ TB := tb_t 380 (by decide +kernel) (by decide +kernel)
theorem ml_La_28 : Cond.methodLink "FavoursGoOffLaw" 28 y_Fa_need ∈ TB := tb_t 384 (by decide +kernel) (by decide +kernel)
theorem ml_Fa_137 : Cond.methodLink "FavoursGoOff" 137 y_Fa_isDayToCome ∈ TB := tb_t 388 (by decide +kernel) (by decide +kernel)
theorem ml_Fa_143 : Cond.methodLink "FavoursGoOff" 143 y_St_addNeed ∈ TB := tb_t 392 (by decide +kernel) (by decide +kernel)
theorem ml_La_33 : Cond.methodLink "FavoursGoOffLaw" 33 y_Fa_contented ∈ TB := tb_t 396 (by decide +kernel) (by decide +kernel)
theorem ml_Fa_147 : Cond.methodLink "FavoursGoOff" 147 y_Ta_empty ∈ TB := tb_t 400 (by decide +kernel) (by decide +kernel)
theorem ml_La_40 : Cond.methodLink "FavoursGoOffLaw" 40 y_Fa_type ∈ TB := tb_t 401 (by decide +kernel) (by decide +kernel)
theorem ml_Fa_155 : Cond.methodLink "FavoursGoOff" 155 y_Te_add ∈ TB := tb_t 405 (by decide +kernel) (by decide +kernel)
theorem ml_La_45 : Cond.methodLink "FavoursGoOffLaw" 45 y_Fa_clear ∈ TB := tb_t 409 (by decide +kernel) (by decide +kernel)
theorem ml_La_49 : Cond.methodLink "FavoursGoOffLaw" 49 y_Fa_read ∈ TB := tb_t 413 (by decide +kernel) (by decide +kernel)
theorem ml_Fa_158 : Cond.methodLink "FavoursGoOff" 158 y_Re_readStreet ∈ TB := tb_t 417 (by decide +kernel) (by decide +kernel)
theorem ml_Re_32 : Cond.methodLink "FavoursGoOff$Reader" 32 y_Re_step ∈ TB := tb_t 421 (by decide +kernel) (by decide +kernel)
theorem ml_Re_121 : Cond.methodLink "FavoursGoOff$Reader" 121 y_Te_at ∈ TB := tb_t 425 (by decide +kernel) (by decide +kernel)
theorem ml_Re_129 : Cond.methodLink "FavoursGoOff$Reader" 129 y_Re_endOfRun ∈ TB := tb_t 430 (by decide +kernel) (by decide +kernel)
theorem ml_Re_132 : Cond.methodLink "FavoursGoOff$Reader" 132 y_Re_takeFigures ∈ TB := tb_t 434 (by decide +kernel) (by decide +kernel)
theorem ml_Re_35 : Cond.methodLink "FavoursGoOff$Reader" 35 y_Re_readPeople ∈ TB := tb_t 438 (by decide +kernel) (by decide +kernel)
theorem ml_Re_46 : Cond.methodLink "FavoursGoOff$Reader" 46 y_Re_isWord ∈ TB := tb_t 443 (by decide +kernel) (by decide +kernel)
theorem ml_Re_135 : Cond.methodLink "FavoursGoOff$Reader" 135 y_JS_length_8abf5 ∈ TB := tb_t 447 (by decide +kernel) (by decide +kernel)
theorem ml_JS_335 : Cond.methodLink "java/lang/String" 335 y_JS_coder_7d493 ∈ TB := tb_t 451 (by decide +kernel) (by decide +kernel)
theorem ml_Re_140 : Cond.methodLink "FavoursGoOff$Reader" 140 y_JS_charAt_5068e ∈ TB := tb_t 457 (by decide +kernel) (by decide +kernel)
theorem ml_JS_492 : Cond.methodLink "java/lang/String" 492 y_JS_isLatin1_aae02 ∈ TB := tb_t 461 (by decide +kernel) (by decide +kernel)
theorem ml_JS_495 : Cond.methodLink "java/lang/String" 495 y_JL_charAt_3b067 ∈ TB := tb_t 465 (by decide +kernel) (by decide +kernel)
theorem ml_JL_9 : Cond.methodLink "java/lang/StringLatin1" 9 y_JS_checkIndex_df160 ∈ TB := tb_t 468 (by decide +kernel) (by decide +kernel)
theorem ml_JS_1059 : Cond.methodLink "java/lang/String" 1059 y_JP_checkIndex_8e157 ∈ TB := tb_t 473 (by decide +kernel) (by decide +kernel)
theorem ml_JS_498 : Cond.methodLink "java/lang/String" 498 y_JU_charAt_3b067 ∈ TB := tb_t 476 (by decide +kernel) (by decide +kernel)
theorem ml_JU_67 : Cond.methodLink "java/lang/StringUTF16" 67 y_JU_checkIndex_2214a ∈ TB := tb_t 479 (by decide +kernel) (by decide +kernel)
theorem ml_JU_48 : Cond.methodLink "java/lang/StringUTF16" 48 y_JU_length_9d52b ∈ TB := tb_t 482 (by decide +kernel) (by decide +kernel)
theorem ml_JU_414 : Cond.methodLink "java/lang/StringUTF16" 414 y_JS_checkIndex_df160 ∈ TB := tb_t 485 (by decide +kernel) (by decide +kernel)
theorem ml_JU_71 : Cond.methodLink "java/lang/StringUTF16" 71 y_JU_getChar_3b067 ∈ TB := tb_t 486 (by decide +kernel) (by decide +kernel)
theorem ml_Re_50 : Cond.methodLink "FavoursGoOff$Reader" 50 y_Re_fail ∈ TB := tb_t 495 (by decide +kernel) (by decide +kernel)
theorem ml_Re_53 : Cond.methodLink "FavoursGoOff$Reader" 53 y_Re_takeNumber ∈ TB := tb_t 499 (by decide +kernel) (by decide +kernel)
theorem ml_Re_57 : Cond.methodLink "FavoursGoOff$Reader" 57 y_Re_takeStop ∈ TB := tb_t 503 (by decide +kernel) (by decide +kernel)
theorem ml_Re_60 : Cond.methodLink "FavoursGoOff$Reader" 60 y_St_open ∈ TB := tb_t 507 (by decide +kernel) (by decide +kernel)
theorem ml_Re_41 : Cond.methodLink "FavoursGoOff$Reader" 41 y_Re_readItem ∈ TB := tb_t 508 (by decide +kernel) (by decide +kernel)
theorem ml_Re_69 : Cond.methodLink "FavoursGoOff$Reader" 69 y_Re_readStrong ∈ TB := tb_t 513 (by decide +kernel) (by decide +kernel)
theorem ml_Re_97 : Cond.methodLink "FavoursGoOff$Reader" 97 y_Ta_put ∈ TB := tb_t 517 (by decide +kernel) (by decide +kernel)
theorem ml_Re_78 : Cond.methodLink "FavoursGoOff$Reader" 78 y_Ta_isFull ∈ TB := tb_t 519 (by decide +kernel) (by decide +kernel)
theorem ml_Re_84 : Cond.methodLink "FavoursGoOff$Reader" 84 y_Re_readFavour ∈ TB := tb_t 520 (by decide +kernel) (by decide +kernel)
theorem ml_Re_101 : Cond.methodLink "FavoursGoOff$Reader" 101 y_Re_refuse ∈ TB := tb_t 524 (by decide +kernel) (by decide +kernel)
theorem ml_Re_104 : Cond.methodLink "FavoursGoOff$Reader" 104 y_St_addFavour ∈ TB := tb_t 528 (by decide +kernel) (by decide +kernel)
theorem ml_Re_92 : Cond.methodLink "FavoursGoOff$Reader" 92 y_Re_readNeed ∈ TB := tb_t 530 (by decide +kernel) (by decide +kernel)
theorem ml_Re_108 : Cond.methodLink "FavoursGoOff$Reader" 108 y_St_addNeed ∈ TB := tb_t 534 (by decide +kernel) (by decide +kernel)
theorem ml_Fa_167 : Cond.methodLink "FavoursGoOff" 167 y_St_takeAllButRates ∈ TB := tb_t 535 (by decide +kernel) (by decide +kernel)
theorem ml_St_54 : Cond.methodLink "FavoursGoOff$Street" 54 y_Ta_copyFrom ∈ TB := tb_t 539 (by decide +kernel) (by decide +kernel)
theorem ml_Ta_42 : Cond.methodLink "FavoursGoOff$Table" 42 Lib.Math.min.name ∈ TB := tb_t 543 (by decide +kernel) (by decide +kernel)
theorem ml_Ta_45 : Cond.methodLink "FavoursGoOff$Table" 45 arraycopyName ∈ TB := tb_t 546 (by decide +kernel) (by decide +kernel)
theorem nat_copy : Cond.native arraycopyName ∈ TB := tb_t 548 (by decide +kernel) (by decide +kernel)
theorem ac_byte : Cond.arrayClass .byte ∈ TB := tb_t 549 (by decide +kernel) (by decide +kernel)
theorem ml_La_53 : Cond.methodLink "FavoursGoOffLaw" 53 y_Fa_value ∈ TB := tb_t 550 (by decide +kernel) (by decide +kernel)
theorem ml_Fa_171 : Cond.methodLink "FavoursGoOff" 171 y_St_valueOn ∈ TB := tb_t 554 (by decide +kernel) (by decide +kernel)
theorem ml_St_62 : Cond.methodLink "FavoursGoOff$Street" 62 y_Ta_at ∈ TB := tb_t 558 (by decide +kernel) (by decide +kernel)
theorem ml_St_65 : Cond.methodLink "FavoursGoOff$Street" 65 Lib.Math.max.name ∈ TB := tb_t 559 (by decide +kernel) (by decide +kernel)
theorem ml_La_57 : Cond.methodLink "FavoursGoOffLaw" 57 y_Fa_of ∈ TB := tb_t 560 (by decide +kernel) (by decide +kernel)
theorem ml_La_61 : Cond.methodLink "FavoursGoOffLaw" 61 y_Fa_pass ∈ TB := tb_t 564 (by decide +kernel) (by decide +kernel)
theorem ml_Fa_174 : Cond.methodLink "FavoursGoOff" 174 y_St_valueNow ∈ TB := tb_t 568 (by decide +kernel) (by decide +kernel)
theorem ml_St_58 : Cond.methodLink "FavoursGoOff$Street" 58 y_St_valueOn ∈ TB := tb_t 572 (by decide +kernel) (by decide +kernel)
theorem ml_Fa_177 : Cond.methodLink "FavoursGoOff" 177 y_Fa_no ∈ TB := tb_t 573 (by decide +kernel) (by decide +kernel)
theorem ml_La_65 : Cond.methodLink "FavoursGoOffLaw" 65 y_Fa_join ∈ TB := tb_t 577 (by decide +kernel) (by decide +kernel)
theorem ml_Fa_180 : Cond.methodLink "FavoursGoOff" 180 y_St_areAlike ∈ TB := tb_t 581 (by decide +kernel) (by decide +kernel)
theorem ml_Fa_184 : Cond.methodLink "FavoursGoOff" 184 y_St_merge ∈ TB := tb_t 585 (by decide +kernel) (by decide +kernel)
theorem ml_St_70 : Cond.methodLink "FavoursGoOff$Street" 70 Lib.Math.min.name ∈ TB := tb_t 589 (by decide +kernel) (by decide +kernel)
theorem ml_La_69 : Cond.methodLink "FavoursGoOffLaw" 69 y_Fa_ask ∈ TB := tb_t 590 (by decide +kernel) (by decide +kernel)
theorem ml_La_73 : Cond.methodLink "FavoursGoOffLaw" 73 y_Fa_night ∈ TB := tb_t 594 (by decide +kernel) (by decide +kernel)
theorem ml_Fa_190 : Cond.methodLink "FavoursGoOff" 190 y_Hi_keepNight ∈ TB := tb_t 598 (by decide +kernel) (by decide +kernel)
theorem ml_Hi_24 : Cond.methodLink "FavoursGoOff$History" 24 y_St_copyFrom ∈ TB := tb_t 602 (by decide +kernel) (by decide +kernel)
theorem ml_St_50 : Cond.methodLink "FavoursGoOff$Street" 50 y_St_takeAllButRates ∈ TB := tb_t 606 (by decide +kernel) (by decide +kernel)
theorem ml_Hi_32 : Cond.methodLink "FavoursGoOff$History" 32 Lib.Math.min.name ∈ TB := tb_t 607 (by decide +kernel) (by decide +kernel)
theorem ml_Fa_193 : Cond.methodLink "FavoursGoOff" 193 y_St_wake ∈ TB := tb_t 608 (by decide +kernel) (by decide +kernel)
theorem ml_La_77 : Cond.methodLink "FavoursGoOffLaw" 77 y_Fa_undo ∈ TB := tb_t 612 (by decide +kernel) (by decide +kernel)
theorem ml_Fa_196 : Cond.methodLink "FavoursGoOff" 196 y_Hi_goBack ∈ TB := tb_t 616 (by decide +kernel) (by decide +kernel)
theorem ml_Hi_38 : Cond.methodLink "FavoursGoOff$History" 38 Lib.Math.max.name ∈ TB := tb_t 620 (by decide +kernel) (by decide +kernel)
theorem ml_La_81 : Cond.methodLink "FavoursGoOffLaw" 81 y_Fa_owes ∈ TB := tb_t 621 (by decide +kernel) (by decide +kernel)
theorem ml_Fa_199 : Cond.methodLink "FavoursGoOff" 199 y_De_addUp ∈ TB := tb_t 625 (by decide +kernel) (by decide +kernel)
theorem ml_De_36 : Cond.methodLink "FavoursGoOff$Debts" 36 Lib.Math.min.name ∈ TB := tb_t 629 (by decide +kernel) (by decide +kernel)
theorem ml_De_44 : Cond.methodLink "FavoursGoOff$Debts" 44 y_Ta_fillRow ∈ TB := tb_t 630 (by decide +kernel) (by decide +kernel)
theorem ml_Ta_34 : Cond.methodLink "FavoursGoOff$Table" 34 y_Ta_put ∈ TB := tb_t 634 (by decide +kernel) (by decide +kernel)
theorem ml_De_50 : Cond.methodLink "FavoursGoOff$Debts" 50 y_Ta_at ∈ TB := tb_t 635 (by decide +kernel) (by decide +kernel)
theorem ml_De_53 : Cond.methodLink "FavoursGoOff$Debts" 53 y_St_valueOn ∈ TB := tb_t 636 (by decide +kernel) (by decide +kernel)
theorem ml_De_56 : Cond.methodLink "FavoursGoOff$Debts" 56 y_Ta_more ∈ TB := tb_t 637 (by decide +kernel) (by decide +kernel)
theorem ml_Ta_31 : Cond.methodLink "FavoursGoOff$Table" 31 y_Ta_at ∈ TB := tb_t 641 (by decide +kernel) (by decide +kernel)
theorem ml_Fa_203 : Cond.methodLink "FavoursGoOff" 203 y_De_between ∈ TB := tb_t 642 (by decide +kernel) (by decide +kernel)
theorem ml_La_85 : Cond.methodLink "FavoursGoOffLaw" 85 y_Fa_ring ∈ TB := tb_t 646 (by decide +kernel) (by decide +kernel)
theorem ml_Fa_206 : Cond.methodLink "FavoursGoOff" 206 y_Fa_findRing ∈ TB := tb_t 650 (by decide +kernel) (by decide +kernel)
theorem ml_Fa_320 : Cond.methodLink "FavoursGoOff" 320 y_Ci_find ∈ TB := tb_t 654 (by decide +kernel) (by decide +kernel)
theorem ml_Ci_24 : Cond.methodLink "FavoursGoOff$Circle" 24 y_Ci_closes ∈ TB := tb_t 658 (by decide +kernel) (by decide +kernel)
theorem ml_Ci_28 : Cond.methodLink "FavoursGoOff$Circle" 28 y_Ci_member ∈ TB := tb_t 661 (by decide +kernel) (by decide +kernel)
theorem ml_Ci_32 : Cond.methodLink "FavoursGoOff$Circle" 32 y_De_between ∈ TB := tb_t 665 (by decide +kernel) (by decide +kernel)
theorem ml_Ci_36 : Cond.methodLink "FavoursGoOff$Circle" 36 y_Ci_holds ∈ TB := tb_t 666 (by decide +kernel) (by decide +kernel)
theorem ml_Fa_210 : Cond.methodLink "FavoursGoOff" 210 y_Ci_member ∈ TB := tb_t 670 (by decide +kernel) (by decide +kernel)
theorem ml_La_89 : Cond.methodLink "FavoursGoOffLaw" 89 y_Fa_cancel ∈ TB := tb_t 671 (by decide +kernel) (by decide +kernel)
theorem ml_Fa_213 : Cond.methodLink "FavoursGoOff" 213 y_St_cheapest ∈ TB := tb_t 675 (by decide +kernel) (by decide +kernel)
theorem ml_St_73 : Cond.methodLink "FavoursGoOff$Street" 73 y_St_valueNow ∈ TB := tb_t 679 (by decide +kernel) (by decide +kernel)
theorem ml_La_93 : Cond.methodLink "FavoursGoOffLaw" 93 y_Fa_net ∈ TB := tb_t 680 (by decide +kernel) (by decide +kernel)
theorem ml_Fa_216 : Cond.methodLink "FavoursGoOff" 216 y_De_balance ∈ TB := tb_t 684 (by decide +kernel) (by decide +kernel)
theorem ml_De_60 : Cond.methodLink "FavoursGoOff$Debts" 60 y_De_doneFor ∈ TB := tb_t 688 (by decide +kernel) (by decide +kernel)
theorem ml_De_82 : Cond.methodLink "FavoursGoOff$Debts" 82 y_De_between ∈ TB := tb_t 692 (by decide +kernel) (by decide +kernel)
theorem ml_De_63 : Cond.methodLink "FavoursGoOff$Debts" 63 y_De_dueFrom ∈ TB := tb_t 693 (by decide +kernel) (by decide +kernel)
theorem ml_La_97 : Cond.methodLink "FavoursGoOffLaw" 97 y_Fa_fewest ∈ TB := tb_t 697 (by decide +kernel) (by decide +kernel)
theorem ml_Fa_219 : Cond.methodLink "FavoursGoOff" 219 y_De_fewestPayments ∈ TB := tb_t 701 (by decide +kernel) (by decide +kernel)
theorem ml_De_67 : Cond.methodLink "FavoursGoOff$Debts" 67 y_De_balance ∈ TB := tb_t 705 (by decide +kernel) (by decide +kernel)
theorem ml_De_70 : Cond.methodLink "FavoursGoOff$Debts" 70 y_De_mostGroups ∈ TB := tb_t 706 (by decide +kernel) (by decide +kernel)
theorem ml_De_73 : Cond.methodLink "FavoursGoOff$Debts" 73 Lib.Math.max.name ∈ TB := tb_t 710 (by decide +kernel) (by decide +kernel)
theorem ml_La_101 : Cond.methodLink "FavoursGoOffLaw" 101 y_Fa_met ∈ TB := tb_t 711 (by decide +kernel) (by decide +kernel)
theorem ml_Fa_222 : Cond.methodLink "FavoursGoOff" 222 y_Pl_make ∈ TB := tb_t 715 (by decide +kernel) (by decide +kernel)
theorem ml_Pl_55 : Cond.methodLink "FavoursGoOff$Plan" 55 Lib.Math.min.name ∈ TB := tb_t 719 (by decide +kernel) (by decide +kernel)
theorem ml_Pl_68 : Cond.methodLink "FavoursGoOff$Plan" 68 y_Ta_at ∈ TB := tb_t 720 (by decide +kernel) (by decide +kernel)
theorem ml_Pl_71 : Cond.methodLink "FavoursGoOff$Plan" 71 y_Pl_layOut ∈ TB := tb_t 721 (by decide +kernel) (by decide +kernel)
theorem ml_Pl_91 : Cond.methodLink "FavoursGoOff$Plan" 91 y_Ta_put ∈ TB := tb_t 725 (by decide +kernel) (by decide +kernel)
theorem ml_Pl_95 : Cond.methodLink "FavoursGoOff$Plan" 95 y_St_valueOn ∈ TB := tb_t 726 (by decide +kernel) (by decide +kernel)
theorem ml_Pl_75 : Cond.methodLink "FavoursGoOff$Plan" 75 y_Pl_lookAhead ∈ TB := tb_t 727 (by decide +kernel) (by decide +kernel)
theorem ml_Pl_84 : Cond.methodLink "FavoursGoOff$Plan" 84 y_Pl_search ∈ TB := tb_t 731 (by decide +kernel) (by decide +kernel)
theorem ml_Pl_98 : Cond.methodLink "FavoursGoOff$Plan" 98 y_Pl_keepIfBetter ∈ TB := tb_t 734 (by decide +kernel) (by decide +kernel)
theorem ml_Pl_101 : Cond.methodLink "FavoursGoOff$Plan" 101 y_Pl_isNoBetter ∈ TB := tb_t 738 (by decide +kernel) (by decide +kernel)
theorem ml_Pl_105 : Cond.methodLink "FavoursGoOff$Plan" 105 y_Ta_more ∈ TB := tb_t 742 (by decide +kernel) (by decide +kernel)
theorem ml_La_105 : Cond.methodLink "FavoursGoOffLaw" 105 y_Fa_plan ∈ TB := tb_t 743 (by decide +kernel) (by decide +kernel)
theorem ml_Fa_231 : Cond.methodLink "FavoursGoOff" 231 y_Pl_favourOf ∈ TB := tb_t 747 (by decide +kernel) (by decide +kernel)
theorem ml_La_109 : Cond.methodLink "FavoursGoOffLaw" 109 y_Fa_fire ∈ TB := tb_t 751 (by decide +kernel) (by decide +kernel)
theorem ml_Fa_234 : Cond.methodLink "FavoursGoOff" 234 y_De_callAllIn ∈ TB := tb_t 755 (by decide +kernel) (by decide +kernel)
theorem ml_La_113 : Cond.methodLink "FavoursGoOffLaw" 113 y_Fa_rate ∈ TB := tb_t 759 (by decide +kernel) (by decide +kernel)
theorem ml_Fa_244 : Cond.methodLink "FavoursGoOff" 244 y_St_rateNow ∈ TB := tb_t 763 (by decide +kernel) (by decide +kernel)
theorem ml_Fa_247 : Cond.methodLink "FavoursGoOff" 247 y_St_drift ∈ TB := tb_t 767 (by decide +kernel) (by decide +kernel)
theorem ml_Fa_250 : Cond.methodLink "FavoursGoOff" 250 y_Fa_heldRate ∈ TB := tb_t 771 (by decide +kernel) (by decide +kernel)
theorem ml_Fa_324 : Cond.methodLink "FavoursGoOff" 324 Lib.Math.min.name ∈ TB := tb_t 774 (by decide +kernel) (by decide +kernel)
theorem ml_Fa_256 : Cond.methodLink "FavoursGoOff" 256 Lib.Math.max.name ∈ TB := tb_t 775 (by decide +kernel) (by decide +kernel)
theorem ml_La_117 : Cond.methodLink "FavoursGoOffLaw" 117 y_Fa_set ∈ TB := tb_t 776 (by decide +kernel) (by decide +kernel)
theorem ml_La_121 : Cond.methodLink "FavoursGoOffLaw" 121 y_Fa_settles ∈ TB := tb_t 780 (by decide +kernel) (by decide +kernel)
theorem ml_Fa_253 : Cond.methodLink "FavoursGoOff" 253 y_Fa_lastChange ∈ TB := tb_t 784 (by decide +kernel) (by decide +kernel)
theorem ml_La_125 : Cond.methodLink "FavoursGoOffLaw" 125 y_Fa_told ∈ TB := tb_t 787 (by decide +kernel) (by decide +kernel)
theorem ml_Fa_264 : Cond.methodLink "FavoursGoOff" 264 y_St_addPass ∈ TB := tb_t 791 (by decide +kernel) (by decide +kernel)
theorem ml_La_130 : Cond.methodLink "FavoursGoOffLaw" 130 y_Fa_forged ∈ TB := tb_t 795 (by decide +kernel) (by decide +kernel)
theorem ml_Fa_268 : Cond.methodLink "FavoursGoOff" 268 y_St_holderAhead ∈ TB := tb_t 799 (by decide +kernel) (by decide +kernel)
theorem ml_La_134 : Cond.methodLink "FavoursGoOffLaw" 134 y_Fa_forget ∈ TB := tb_t 803 (by decide +kernel) (by decide +kernel)
theorem ml_La_138 : Cond.methodLink "FavoursGoOffLaw" 138 y_Fa_goesOff ∈ TB := tb_t 807 (by decide +kernel) (by decide +kernel)
theorem ml_La_142 : Cond.methodLink "FavoursGoOffLaw" 142 y_Fa_kept ∈ TB := tb_t 811 (by decide +kernel) (by decide +kernel)
theorem ml_Fa_271 : Cond.methodLink "FavoursGoOff" 271 y_Fa_choices ∈ TB := tb_t 815 (by decide +kernel) (by decide +kernel)
theorem ml_Fa_275 : Cond.methodLink "FavoursGoOff" 275 y_Fa_power ∈ TB := tb_t 818 (by decide +kernel) (by decide +kernel)
theorem ml_Fa_278 : Cond.methodLink "FavoursGoOff" 278 y_Fr_become ∈ TB := tb_t 821 (by decide +kernel) (by decide +kernel)
theorem ml_Fr_13 : Cond.methodLink "FavoursGoOff$Fraction" 13 y_Fr_commonDivisor ∈ TB := tb_t 825 (by decide +kernel) (by decide +kernel)
theorem ml_La_146 : Cond.methodLink "FavoursGoOffLaw" 146 y_Fa_part ∈ TB := tb_t 828 (by decide +kernel) (by decide +kernel)
theorem ml_La_151 : Cond.methodLink "FavoursGoOffLaw" 151 y_Fa_image ∈ TB := tb_t 832 (by decide +kernel) (by decide +kernel)
theorem ml_Fa_289 : Cond.methodLink "FavoursGoOff" 289 y_Fa_imageAt ∈ TB := tb_t 836 (by decide +kernel) (by decide +kernel)
theorem ml_Fa_293 : Cond.methodLink "FavoursGoOff" 293 y_Hi_copyFrom ∈ TB := tb_t 840 (by decide +kernel) (by decide +kernel)
theorem ml_La_155 : Cond.methodLink "FavoursGoOffLaw" 155 y_Fa_from ∈ TB := tb_t 844 (by decide +kernel) (by decide +kernel)
theorem ml_La_159 : Cond.methodLink "FavoursGoOffLaw" 159 y_Fa_status ∈ TB := tb_t 848 (by decide +kernel) (by decide +kernel)
theorem ml_La_163 : Cond.methodLink "FavoursGoOffLaw" 163 y_Fa_count ∈ TB := tb_t 852 (by decide +kernel) (by decide +kernel)
theorem ml_Fa_309 : Cond.methodLink "FavoursGoOff" 309 y_Fa_howMany ∈ TB := tb_t 856 (by decide +kernel) (by decide +kernel)
theorem ml_La_167 : Cond.methodLink "FavoursGoOffLaw" 167 y_Fa_digest ∈ TB := tb_t 860 (by decide +kernel) (by decide +kernel)
theorem kl_Fa_312 : Cond.constantLong "FavoursGoOff" 312 683 ∈ TB := tb_t 864 (by decide +kernel) (by decide +kernel)
theorem kl_Fa_314 : Cond.constantLong "FavoursGoOff" 314 31 ∈ TB := tb_t 865 (by decide +kernel) (by decide +kernel)
theorem ml_Fa_316 : Cond.methodLink "FavoursGoOff" 316 y_Ta_mixedInto ∈ TB := tb_t 866 (by decide +kernel) (by decide +kernel)
theorem kl_Ta_51 : Cond.constantLong "FavoursGoOff$Table" 51 31 ∈ TB := tb_t 870 (by decide +kernel) (by decide +kernel)
theorem cl_La_10 : Cond.classLink "FavoursGoOffLaw" 10 "FavoursGoOffModel" ∈ TB := tb_t 871 (by decide +kernel) (by decide +kernel)
theorem in_Mo : Cond.instantiable "FavoursGoOffModel" 24 ∈ TB := tb_t 872 (by decide +kernel) (by decide +kernel)
theorem ml_La_12 : Cond.methodLink "FavoursGoOffLaw" 12 y_Mo_init ∈ TB := tb_t 873 (by decide +kernel) (by decide +kernel)
theorem ml_Mo_1 : Cond.methodLink "FavoursGoOffModel" 1 Lib.objectInit ∈ TB := tb_t 876 (by decide +kernel) (by decide +kernel)
theorem ml_Mo_57 : Cond.methodLink "FavoursGoOffModel" 57 y_Mo_begin ∈ TB := tb_t 877 (by decide +kernel) (by decide +kernel)
theorem fl_Mo_7 : FL "FavoursGoOffModel" 7 10 0 2 true (.array .int) := FL.mk' "FavoursGoOffModel" TX10 24 tyX10 rfl ul_10 tyX10_ok nmX10 (by decide) rfl rfl (fun _ _ => rfl) (tb_t 880 (by decide +kernel) (by decide +kernel)) rfl (by decide)
theorem fl_Mo_13 : FL "FavoursGoOffModel" 13 10 1 2 true (.array .int) := FL.mk' "FavoursGoOffModel" TX10 24 tyX10 rfl ul_10 tyX10_ok nmX10 (by decide) rfl rfl (fun _ _ => rfl) (tb_t 881 (by decide +kernel) (by decide +kernel)) rfl (by decide)
theorem fl_Mo_16 : FL "FavoursGoOffModel" 16 10 2 2 true (.array .boolean) := FL.mk' "FavoursGoOffModel" TX10 24 tyX10 rfl ul_10 tyX10_ok nmX10 (by decide) rfl rfl (fun _ _ => rfl) (tb_t 882 (by decide +kernel) (by decide +kernel)) rfl (by decide)
theorem fl_Mo_20 : FL "FavoursGoOffModel" 20 10 3 2 true (.array .int) := FL.mk' "FavoursGoOffModel" TX10 24 tyX10 rfl ul_10 tyX10_ok nmX10 (by decide) rfl rfl (fun _ _ => rfl) (tb_t 883 (by decide +kernel) (by decide +kernel)) rfl (by decide)
theorem fl_Mo_61 : FL "FavoursGoOffModel" 61 10 4 1 false .long := FL.mk' "FavoursGoOffModel" TX10 24 tyX10 rfl ul_10 tyX10_ok nmX10 (by decide) rfl rfl (fun h => by cases h) (tb_t 884 (by decide +kernel) (by decide +kernel)) rfl (by decide)
theorem fl_Mo_23 : FL "FavoursGoOffModel" 23 10 5 1 false .long := FL.mk' "FavoursGoOffModel" TX10 24 tyX10 rfl ul_10 tyX10_ok nmX10 (by decide) rfl rfl (fun h => by cases h) (tb_t 885 (by decide +kernel) (by decide +kernel)) rfl (by decide)
theorem fl_Mo_27 : FL "FavoursGoOffModel" 27 10 6 2 true (.array .int) := FL.mk' "FavoursGoOffModel" TX10 24 tyX10 rfl ul_10 tyX10_ok nmX10 (by decide) rfl rfl (fun _ _ => rfl) (tb_t 886 (by decide +kernel) (by decide +kernel)) rfl (by decide)
theorem fl_Mo_138 : FL "FavoursGoOffModel" 138 10 7 0 false .int := FL.mk' "FavoursGoOffModel" TX10 24 tyX10 rfl ul_10 tyX10_ok nmX10 (by decide) rfl rfl (fun h => by cases h) (tb_t 887 (by decide +kernel) (by decide +kernel)) rfl (by decide)
theorem fl_Mo_30 : FL "FavoursGoOffModel" 30 10 8 2 true (.array .int) := FL.mk' "FavoursGoOffModel" TX10 24 tyX10 rfl ul_10 tyX10_ok nmX10 (by decide) rfl rfl (fun _ _ => rfl) (tb_t 888 (by decide +kernel) (by decide +kernel)) rfl (by decide)
theorem fl_Mo_33 : FL "FavoursGoOffModel" 33 10 9 2 true (.array .int) := FL.mk' "FavoursGoOffModel" TX10 24 tyX10 rfl ul_10 tyX10_ok nmX10 (by decide) rfl rfl (fun _ _ => rfl) (tb_t 889 (by decide +kernel) (by decide +kernel)) rfl (by decide)
theorem fl_Mo_36 : FL "FavoursGoOffModel" 36 10 10 2 true (.array .int) := FL.mk' "FavoursGoOffModel" TX10 24 tyX10 rfl ul_10 tyX10_ok nmX10 (by decide) rfl rfl (fun _ _ => rfl) (tb_t 890 (by decide +kernel) (by decide +kernel)) rfl (by decide)
theorem fl_Mo_39 : FL "FavoursGoOffModel" 39 10 11 2 true (.array .int) := FL.mk' "FavoursGoOffModel" TX10 24 tyX10 rfl ul_10 tyX10_ok nmX10 (by decide) rfl rfl (fun _ _ => rfl) (tb_t 891 (by decide +kernel) (by decide +kernel)) rfl (by decide)
theorem fl_Mo_161 : FL "FavoursGoOffModel" 161 10 12 0 false .int := FL.mk' "FavoursGoOffModel" TX10 24 tyX10 rfl ul_10 tyX10_ok nmX10 (by decide) rfl rfl (fun h => by cases h) (tb_t 892 (by decide +kernel) (by decide +kernel)) rfl (by decide)
theorem fl_Mo_164 : FL "FavoursGoOffModel" 164 10 13 0 false .int := FL.mk' "FavoursGoOffModel" TX10 24 tyX10 rfl ul_10 tyX10_ok nmX10 (by decide) rfl rfl (fun h => by cases h) (tb_t 893 (by decide +kernel) (by decide +kernel)) rfl (by decide)
theorem fl_Mo_42 : FL "FavoursGoOffModel" 42 10 14 2 true (.array .int) := FL.mk' "FavoursGoOffModel" TX10 24 tyX10 rfl ul_10 tyX10_ok nmX10 (by decide) rfl rfl (fun _ _ => rfl) (tb_t 894 (by decide +kernel) (by decide +kernel)) rfl (by decide)
theorem fl_Mo_45 : FL "FavoursGoOffModel" 45 10 15 2 true (.array .int) := FL.mk' "FavoursGoOffModel" TX10 24 tyX10 rfl ul_10 tyX10_ok nmX10 (by decide) rfl rfl (fun _ _ => rfl) (tb_t 895 (by decide +kernel) (by decide +kernel)) rfl (by decide)
theorem fl_Mo_48 : FL "FavoursGoOffModel" 48 10 16 2 true (.array .int) := FL.mk' "FavoursGoOffModel" TX10 24 tyX10 rfl ul_10 tyX10_ok nmX10 (by decide) rfl rfl (fun _ _ => rfl) (tb_t 896 (by decide +kernel) (by decide +kernel)) rfl (by decide)
theorem fl_Mo_199 : FL "FavoursGoOffModel" 199 10 17 0 false .int := FL.mk' "FavoursGoOffModel" TX10 24 tyX10 rfl ul_10 tyX10_ok nmX10 (by decide) rfl rfl (fun h => by cases h) (tb_t 897 (by decide +kernel) (by decide +kernel)) rfl (by decide)
theorem fl_Mo_212 : FL "FavoursGoOffModel" 212 10 18 0 false .int := FL.mk' "FavoursGoOffModel" TX10 24 tyX10 rfl ul_10 tyX10_ok nmX10 (by decide) rfl rfl (fun h => by cases h) (tb_t 898 (by decide +kernel) (by decide +kernel)) rfl (by decide)
theorem fl_Mo_215 : FL "FavoursGoOffModel" 215 10 19 0 false .int := FL.mk' "FavoursGoOffModel" TX10 24 tyX10 rfl ul_10 tyX10_ok nmX10 (by decide) rfl rfl (fun h => by cases h) (tb_t 899 (by decide +kernel) (by decide +kernel)) rfl (by decide)
theorem fl_Mo_218 : FL "FavoursGoOffModel" 218 10 20 0 false .int := FL.mk' "FavoursGoOffModel" TX10 24 tyX10 rfl ul_10 tyX10_ok nmX10 (by decide) rfl rfl (fun h => by cases h) (tb_t 900 (by decide +kernel) (by decide +kernel)) rfl (by decide)
theorem fl_Mo_221 : FL "FavoursGoOffModel" 221 10 21 0 false .int := FL.mk' "FavoursGoOffModel" TX10 24 tyX10 rfl ul_10 tyX10_ok nmX10 (by decide) rfl rfl (fun h => by cases h) (tb_t 901 (by decide +kernel) (by decide +kernel)) rfl (by decide)
theorem fl_Mo_51 : FL "FavoursGoOffModel" 51 10 22 2 true (.array .int) := FL.mk' "FavoursGoOffModel" TX10 24 tyX10 rfl ul_10 tyX10_ok nmX10 (by decide) rfl rfl (fun _ _ => rfl) (tb_t 902 (by decide +kernel) (by decide +kernel)) rfl (by decide)
theorem fl_Mo_54 : FL "FavoursGoOffModel" 54 10 23 2 true (.array .int) := FL.mk' "FavoursGoOffModel" TX10 24 tyX10 rfl ul_10 tyX10_ok nmX10 (by decide) rfl rfl (fun _ _ => rfl) (tb_t 903 (by decide +kernel) (by decide +kernel)) rfl (by decide)
theorem ac_boolean : Cond.arrayClass .boolean ∈ TB := tb_t 953 (by decide +kernel) (by decide +kernel)
theorem ml_La_17 : Cond.methodLink "FavoursGoOffLaw" 17 y_Mo_people ∈ TB := tb_t 954 (by decide +kernel) (by decide +kernel)
theorem kl_Mo_76 : Cond.constantLong "FavoursGoOffModel" 76 2 ∈ TB := tb_t 958 (by decide +kernel) (by decide +kernel)
theorem kl_Mo_78 : Cond.constantLong "FavoursGoOffModel" 78 6 ∈ TB := tb_t 959 (by decide +kernel) (by decide +kernel)
theorem ml_Mo_68 : Cond.methodLink "FavoursGoOffModel" 68 y_Mo_in ∈ TB := tb_t 960 (by decide +kernel) (by decide +kernel)
theorem ml_Mo_80 : Cond.methodLink "FavoursGoOffModel" 80 y_Mo_bad ∈ TB := tb_t 963 (by decide +kernel) (by decide +kernel)
theorem ml_Mo_64 : Cond.methodLink "FavoursGoOffModel" 64 y_Mo_many ∈ TB := tb_t 967 (by decide +kernel) (by decide +kernel)
theorem ml_La_22 : Cond.methodLink "FavoursGoOffLaw" 22 y_Mo_strong ∈ TB := tb_t 971 (by decide +kernel) (by decide +kernel)
theorem ml_Mo_84 : Cond.methodLink "FavoursGoOffModel" 84 y_Mo_isOne ∈ TB := tb_t 975 (by decide +kernel) (by decide +kernel)
theorem kl_Mo_72 : Cond.constantLong "FavoursGoOffModel" 72 99 ∈ TB := tb_t 979 (by decide +kernel) (by decide +kernel)
theorem ml_La_27 : Cond.methodLink "FavoursGoOffLaw" 27 y_Mo_favour ∈ TB := tb_t 980 (by decide +kernel) (by decide +kernel)
theorem kl_Mo_88 : Cond.constantLong "FavoursGoOffModel" 88 4 ∈ TB := tb_t 984 (by decide +kernel) (by decide +kernel)
theorem ml_Mo_90 : Cond.methodLink "FavoursGoOffModel" 90 y_Mo_isThing ∈ TB := tb_t 985 (by decide +kernel) (by decide +kernel)
theorem kl_Mo_74 : Cond.constantLong "FavoursGoOffModel" 74 3 ∈ TB := tb_t 988 (by decide +kernel) (by decide +kernel)
theorem kl_Mo_93 : Cond.constantLong "FavoursGoOffModel" 93 40 ∈ TB := tb_t 989 (by decide +kernel) (by decide +kernel)
theorem ml_Mo_95 : Cond.methodLink "FavoursGoOffModel" 95 y_Mo_isDay ∈ TB := tb_t 990 (by decide +kernel) (by decide +kernel)
theorem ml_Mo_98 : Cond.methodLink "FavoursGoOffModel" 98 y_Mo_full ∈ TB := tb_t 993 (by decide +kernel) (by decide +kernel)
theorem ml_Mo_101 : Cond.methodLink "FavoursGoOffModel" 101 y_Mo_day ∈ TB := tb_t 997 (by decide +kernel) (by decide +kernel)
theorem ml_Mo_104 : Cond.methodLink "FavoursGoOffModel" 104 y_Mo_layFavour ∈ TB := tb_t 1001 (by decide +kernel) (by decide +kernel)
theorem ml_La_32 : Cond.methodLink "FavoursGoOffLaw" 32 y_Mo_need ∈ TB := tb_t 1004 (by decide +kernel) (by decide +kernel)
theorem ml_Mo_108 : Cond.methodLink "FavoursGoOffModel" 108 y_Mo_layNeed ∈ TB := tb_t 1008 (by decide +kernel) (by decide +kernel)
theorem ml_La_37 : Cond.methodLink "FavoursGoOffLaw" 37 y_Mo_contented ∈ TB := tb_t 1011 (by decide +kernel) (by decide +kernel)
theorem ml_La_56 : Cond.methodLink "FavoursGoOffLaw" 56 y_Mo_value ∈ TB := tb_t 1015 (by decide +kernel) (by decide +kernel)
theorem ml_Mo_122 : Cond.methodLink "FavoursGoOffModel" 122 y_Mo_isFavour ∈ TB := tb_t 1019 (by decide +kernel) (by decide +kernel)
theorem ml_Mo_119 : Cond.methodLink "FavoursGoOffModel" 119 y_Mo_valueOf ∈ TB := tb_t 1023 (by decide +kernel) (by decide +kernel)
theorem ml_Mo_112 : Cond.methodLink "FavoursGoOffModel" 112 y_Mo_told0 ∈ TB := tb_t 1027 (by decide +kernel) (by decide +kernel)
theorem ml_Mo_116 : Cond.methodLink "FavoursGoOffModel" 116 y_Mo_notBelow0 ∈ TB := tb_t 1031 (by decide +kernel) (by decide +kernel)
theorem ml_La_60 : Cond.methodLink "FavoursGoOffLaw" 60 y_Mo_of ∈ TB := tb_t 1034 (by decide +kernel) (by decide +kernel)
theorem ml_La_64 : Cond.methodLink "FavoursGoOffLaw" 64 y_Mo_pass ∈ TB := tb_t 1038 (by decide +kernel) (by decide +kernel)
theorem ml_Mo_125 : Cond.methodLink "FavoursGoOffModel" 125 y_Mo_valueNow ∈ TB := tb_t 1042 (by decide +kernel) (by decide +kernel)
theorem ml_Mo_128 : Cond.methodLink "FavoursGoOffModel" 128 y_Mo_no ∈ TB := tb_t 1046 (by decide +kernel) (by decide +kernel)
theorem ml_Mo_131 : Cond.methodLink "FavoursGoOffModel" 131 y_Mo_lose ∈ TB := tb_t 1050 (by decide +kernel) (by decide +kernel)
theorem ml_La_68 : Cond.methodLink "FavoursGoOffLaw" 68 y_Mo_join ∈ TB := tb_t 1054 (by decide +kernel) (by decide +kernel)
theorem ml_La_72 : Cond.methodLink "FavoursGoOffLaw" 72 y_Mo_ask ∈ TB := tb_t 1058 (by decide +kernel) (by decide +kernel)
theorem ml_La_76 : Cond.methodLink "FavoursGoOffLaw" 76 y_Mo_night ∈ TB := tb_t 1062 (by decide +kernel) (by decide +kernel)
theorem ml_La_80 : Cond.methodLink "FavoursGoOffLaw" 80 y_Mo_undo ∈ TB := tb_t 1066 (by decide +kernel) (by decide +kernel)
theorem ml_La_84 : Cond.methodLink "FavoursGoOffLaw" 84 y_Mo_owes ∈ TB := tb_t 1070 (by decide +kernel) (by decide +kernel)
theorem ml_Mo_135 : Cond.methodLink "FavoursGoOffModel" 135 y_Mo_owesTo ∈ TB := tb_t 1074 (by decide +kernel) (by decide +kernel)
theorem ml_La_88 : Cond.methodLink "FavoursGoOffLaw" 88 y_Mo_ring ∈ TB := tb_t 1078 (by decide +kernel) (by decide +kernel)
theorem ml_Mo_146 : Cond.methodLink "FavoursGoOffModel" 146 y_Mo_findRing ∈ TB := tb_t 1082 (by decide +kernel) (by decide +kernel)
theorem ml_Mo_142 : Cond.methodLink "FavoursGoOffModel" 142 y_Mo_layRing ∈ TB := tb_t 1086 (by decide +kernel) (by decide +kernel)
theorem ml_La_92 : Cond.methodLink "FavoursGoOffLaw" 92 y_Mo_cancel ∈ TB := tb_t 1090 (by decide +kernel) (by decide +kernel)
theorem ml_Mo_149 : Cond.methodLink "FavoursGoOffModel" 149 y_Mo_leastOf ∈ TB := tb_t 1094 (by decide +kernel) (by decide +kernel)
theorem ml_La_96 : Cond.methodLink "FavoursGoOffLaw" 96 y_Mo_net ∈ TB := tb_t 1098 (by decide +kernel) (by decide +kernel)
theorem ml_Mo_152 : Cond.methodLink "FavoursGoOffModel" 152 y_Mo_netOf ∈ TB := tb_t 1102 (by decide +kernel) (by decide +kernel)
theorem ml_La_100 : Cond.methodLink "FavoursGoOffLaw" 100 y_Mo_fewest ∈ TB := tb_t 1106 (by decide +kernel) (by decide +kernel)
theorem ml_La_104 : Cond.methodLink "FavoursGoOffLaw" 104 y_Mo_met ∈ TB := tb_t 1110 (by decide +kernel) (by decide +kernel)
theorem ml_Mo_173 : Cond.methodLink "FavoursGoOffModel" 173 y_Mo_findMet ∈ TB := tb_t 1114 (by decide +kernel) (by decide +kernel)
theorem ml_Mo_167 : Cond.methodLink "FavoursGoOffModel" 167 y_Mo_fits ∈ TB := tb_t 1118 (by decide +kernel) (by decide +kernel)
theorem ml_Mo_158 : Cond.methodLink "FavoursGoOffModel" 158 y_Mo_mayMeet ∈ TB := tb_t 1122 (by decide +kernel) (by decide +kernel)
theorem ml_Mo_155 : Cond.methodLink "FavoursGoOffModel" 155 y_Mo_need0 ∈ TB := tb_t 1126 (by decide +kernel) (by decide +kernel)
theorem ml_Mo_170 : Cond.methodLink "FavoursGoOffModel" 170 y_Mo_look ∈ TB := tb_t 1130 (by decide +kernel) (by decide +kernel)
theorem ml_La_108 : Cond.methodLink "FavoursGoOffLaw" 108 y_Mo_plan ∈ TB := tb_t 1134 (by decide +kernel) (by decide +kernel)
theorem ml_La_112 : Cond.methodLink "FavoursGoOffLaw" 112 y_Mo_fire ∈ TB := tb_t 1138 (by decide +kernel) (by decide +kernel)
theorem ml_Mo_176 : Cond.methodLink "FavoursGoOffModel" 176 y_Mo_toDo ∈ TB := tb_t 1142 (by decide +kernel) (by decide +kernel)
theorem ml_Mo_179 : Cond.methodLink "FavoursGoOffModel" 179 y_Mo_doneFor ∈ TB := tb_t 1146 (by decide +kernel) (by decide +kernel)
theorem ml_La_116 : Cond.methodLink "FavoursGoOffLaw" 116 y_Mo_rate ∈ TB := tb_t 1150 (by decide +kernel) (by decide +kernel)
theorem ml_Mo_183 : Cond.methodLink "FavoursGoOffModel" 183 y_Mo_ratesBy ∈ TB := tb_t 1154 (by decide +kernel) (by decide +kernel)
theorem ml_Mo_186 : Cond.methodLink "FavoursGoOffModel" 186 y_Mo_hold ∈ TB := tb_t 1158 (by decide +kernel) (by decide +kernel)
theorem ml_La_120 : Cond.methodLink "FavoursGoOffLaw" 120 y_Mo_set ∈ TB := tb_t 1161 (by decide +kernel) (by decide +kernel)
theorem ml_La_124 : Cond.methodLink "FavoursGoOffLaw" 124 y_Mo_settles ∈ TB := tb_t 1165 (by decide +kernel) (by decide +kernel)
theorem ml_La_129 : Cond.methodLink "FavoursGoOffLaw" 129 y_Mo_told ∈ TB := tb_t 1169 (by decide +kernel) (by decide +kernel)
theorem ml_La_133 : Cond.methodLink "FavoursGoOffLaw" 133 y_Mo_forged ∈ TB := tb_t 1173 (by decide +kernel) (by decide +kernel)
theorem ml_La_137 : Cond.methodLink "FavoursGoOffLaw" 137 y_Mo_forget ∈ TB := tb_t 1177 (by decide +kernel) (by decide +kernel)
theorem ml_La_141 : Cond.methodLink "FavoursGoOffLaw" 141 y_Mo_goesOff ∈ TB := tb_t 1181 (by decide +kernel) (by decide +kernel)
theorem ml_La_145 : Cond.methodLink "FavoursGoOffLaw" 145 y_Mo_kept ∈ TB := tb_t 1185 (by decide +kernel) (by decide +kernel)
theorem kl_Mo_189 : Cond.constantLong "FavoursGoOffModel" 189 10 ∈ TB := tb_t 1189 (by decide +kernel) (by decide +kernel)
theorem kl_Mo_191 : Cond.constantLong "FavoursGoOffModel" 191 5 ∈ TB := tb_t 1190 (by decide +kernel) (by decide +kernel)
theorem ml_Mo_193 : Cond.methodLink "FavoursGoOffModel" 193 y_Mo_tells ∈ TB := tb_t 1191 (by decide +kernel) (by decide +kernel)
theorem ml_La_44 : Cond.methodLink "FavoursGoOffLaw" 44 y_Mo_type ∈ TB := tb_t 1195 (by decide +kernel) (by decide +kernel)
theorem kl_Mo_197 : Cond.constantLong "FavoursGoOffModel" 197 8 ∈ TB := tb_t 1199 (by decide +kernel) (by decide +kernel)
theorem kl_Mo_202 : Cond.constantLong "FavoursGoOffModel" 202 255 ∈ TB := tb_t 1200 (by decide +kernel) (by decide +kernel)
theorem ml_La_48 : Cond.methodLink "FavoursGoOffLaw" 48 y_Mo_clear ∈ TB := tb_t 1201 (by decide +kernel) (by decide +kernel)
theorem ml_La_52 : Cond.methodLink "FavoursGoOffLaw" 52 y_Mo_read ∈ TB := tb_t 1205 (by decide +kernel) (by decide +kernel)
theorem ml_Mo_230 : Cond.methodLink "FavoursGoOffModel" 230 y_Mo_lookAt ∈ TB := tb_t 1209 (by decide +kernel) (by decide +kernel)
theorem ml_Mo_224 : Cond.methodLink "FavoursGoOffModel" 224 y_Mo_isSmall ∈ TB := tb_t 1213 (by decide +kernel) (by decide +kernel)
theorem kl_Mo_204 : Cond.constantLong "FavoursGoOffModel" 204 97 ∈ TB := tb_t 1216 (by decide +kernel) (by decide +kernel)
theorem kl_Mo_206 : Cond.constantLong "FavoursGoOffModel" 206 122 ∈ TB := tb_t 1217 (by decide +kernel) (by decide +kernel)
theorem ml_Mo_227 : Cond.methodLink "FavoursGoOffModel" 227 y_Mo_isFigure ∈ TB := tb_t 1218 (by decide +kernel) (by decide +kernel)
theorem kl_Mo_208 : Cond.constantLong "FavoursGoOffModel" 208 48 ∈ TB := tb_t 1221 (by decide +kernel) (by decide +kernel)
theorem kl_Mo_210 : Cond.constantLong "FavoursGoOffModel" 210 57 ∈ TB := tb_t 1222 (by decide +kernel) (by decide +kernel)
theorem ml_Mo_254 : Cond.methodLink "FavoursGoOffModel" 254 y_Mo_readsItem ∈ TB := tb_t 1223 (by decide +kernel) (by decide +kernel)
theorem ml_Mo_240 : Cond.methodLink "FavoursGoOffModel" 240 y_Mo_isWord ∈ TB := tb_t 1227 (by decide +kernel) (by decide +kernel)
theorem ml_Mo_233 : Cond.methodLink "FavoursGoOffModel" 233 y_Mo_goOn ∈ TB := tb_t 1231 (by decide +kernel) (by decide +kernel)
theorem ml_Mo_236 : Cond.methodLink "FavoursGoOffModel" 236 y_Mo_takes ∈ TB := tb_t 1235 (by decide +kernel) (by decide +kernel)
theorem ml_Mo_244 : Cond.methodLink "FavoursGoOffModel" 244 y_Mo_readsStrong ∈ TB := tb_t 1239 (by decide +kernel) (by decide +kernel)
theorem ml_Mo_248 : Cond.methodLink "FavoursGoOffModel" 248 y_Mo_readsFavour ∈ TB := tb_t 1243 (by decide +kernel) (by decide +kernel)
theorem ml_Mo_251 : Cond.methodLink "FavoursGoOffModel" 251 y_Mo_readsNeed ∈ TB := tb_t 1247 (by decide +kernel) (by decide +kernel)
theorem kl_Mo_258 : Cond.constantLong "FavoursGoOffModel" 258 154 ∈ TB := tb_t 1251 (by decide +kernel) (by decide +kernel)
theorem kl_Mo_260 : Cond.constantLong "FavoursGoOffModel" 260 157 ∈ TB := tb_t 1252 (by decide +kernel) (by decide +kernel)
theorem ml_La_150 : Cond.methodLink "FavoursGoOffLaw" 150 y_Mo_part ∈ TB := tb_t 1253 (by decide +kernel) (by decide +kernel)
theorem ml_La_154 : Cond.methodLink "FavoursGoOffLaw" 154 y_Mo_image ∈ TB := tb_t 1257 (by decide +kernel) (by decide +kernel)
theorem ml_La_158 : Cond.methodLink "FavoursGoOffLaw" 158 y_Mo_from ∈ TB := tb_t 1261 (by decide +kernel) (by decide +kernel)
theorem ml_La_162 : Cond.methodLink "FavoursGoOffLaw" 162 y_Mo_status ∈ TB := tb_t 1265 (by decide +kernel) (by decide +kernel)
theorem ml_La_166 : Cond.methodLink "FavoursGoOffLaw" 166 y_Mo_count ∈ TB := tb_t 1269 (by decide +kernel) (by decide +kernel)
theorem ml_Mo_262 : Cond.methodLink "FavoursGoOffModel" 262 y_Mo_counted ∈ TB := tb_t 1273 (by decide +kernel) (by decide +kernel)
theorem ml_La_171 : Cond.methodLink "FavoursGoOffLaw" 171 y_Mo_digest ∈ TB := tb_t 1277 (by decide +kernel) (by decide +kernel)
theorem kl_Mo_267 : Cond.constantLong "FavoursGoOffModel" 267 683 ∈ TB := tb_t 1281 (by decide +kernel) (by decide +kernel)
theorem kl_Mo_265 : Cond.constantLong "FavoursGoOffModel" 265 31 ∈ TB := tb_t 1282 (by decide +kernel) (by decide +kernel)
theorem ml_Mo_269 : Cond.methodLink "FavoursGoOffModel" 269 y_Mo_sums ∈ TB := tb_t 1283 (by decide +kernel) (by decide +kernel)
theorem kl_La_38 : Cond.constantLong "FavoursGoOffLaw" 38 4294967295 ∈ TB := tb_t 1287 (by decide +kernel) (by decide +kernel)
theorem cm_Ci_init : CMI y_Ci_init cX0_init 1 0 := ⟨tb_t 196 (by decide +kernel) (by decide +kernel), it_Ci, tb_t 197 (by decide +kernel) (by decide +kernel), rfl, ⟨by decide, by decide, by decide +kernel⟩⟩
theorem cm_Ci_find : CMV y_Ci_find cX0_find 4 none 1 := ⟨tb_t 655 (by decide +kernel) (by decide +kernel), tb_t 656 (by decide +kernel) (by decide +kernel), it_Ci, tb_t 657 (by decide +kernel) (by decide +kernel), ⟨by decide, by decide, by decide +kernel⟩⟩
theorem cm_Ci_member : CMV y_Ci_member cX0_member 2 (some .int) 1 := ⟨tb_t 662 (by decide +kernel) (by decide +kernel), tb_t 663 (by decide +kernel) (by decide +kernel), it_Ci, tb_t 664 (by decide +kernel) (by decide +kernel), ⟨by decide, by decide, by decide +kernel⟩⟩
theorem cm_Ci_closes : CMS y_Ci_closes cX0_closes 7 (some .boolean) 4 := ⟨tb_t 659 (by decide +kernel) (by decide +kernel), it_Ci, tb_t 660 (by decide +kernel) (by decide +kernel), ⟨by decide, by decide, by decide +kernel⟩⟩
theorem cm_Ci_holds : CMV y_Ci_holds cX0_holds 4 (some .boolean) 2 := ⟨tb_t 668 (by decide +kernel) (by decide +kernel), tb_s 19 (by decide +kernel) (by decide +kernel), it_Ci, tb_t 669 (by decide +kernel) (by decide +kernel), ⟨by decide, by decide, by decide +kernel⟩⟩
theorem cm_De_init : CMI y_De_init cX1_init 1 0 := ⟨tb_t 166 (by decide +kernel) (by decide +kernel), it_De, tb_t 167 (by decide +kernel) (by decide +kernel), rfl, ⟨by decide, by decide, by decide +kernel⟩⟩
theorem cm_De_addUp : CMV y_De_addUp cX1_addUp 4 none 2 := ⟨tb_t 626 (by decide +kernel) (by decide +kernel), tb_t 627 (by decide +kernel) (by decide +kernel), it_De, tb_t 628 (by decide +kernel) (by decide +kernel), ⟨by decide, by decide, by decide +kernel⟩⟩
theorem cm_De_between : CMV y_De_between cX1_between 3 (some .int) 2 := ⟨tb_t 643 (by decide +kernel) (by decide +kernel), tb_t 644 (by decide +kernel) (by decide +kernel), it_De, tb_t 645 (by decide +kernel) (by decide +kernel), ⟨by decide, by decide, by decide +kernel⟩⟩
theorem cm_De_balance : CMV y_De_balance cX1_balance 2 (some .int) 1 := ⟨tb_t 685 (by decide +kernel) (by decide +kernel), tb_t 686 (by decide +kernel) (by decide +kernel), it_De, tb_t 687 (by decide +kernel) (by decide +kernel), ⟨by decide, by decide, by decide +kernel⟩⟩
theorem cm_De_fewestPayments : CMV y_De_fewestPayments cX1_fewestPayments 3 (some .int) 0 := ⟨tb_t 702 (by decide +kernel) (by decide +kernel), tb_t 703 (by decide +kernel) (by decide +kernel), it_De, tb_t 704 (by decide +kernel) (by decide +kernel), ⟨by decide, by decide, by decide +kernel⟩⟩
theorem cm_De_mostGroups : CMV y_De_mostGroups cX1_mostGroups 6 (some .int) 1 := ⟨tb_t 708 (by decide +kernel) (by decide +kernel), tb_s 22 (by decide +kernel) (by decide +kernel), it_De, tb_t 709 (by decide +kernel) (by decide +kernel), ⟨by decide, by decide, by decide +kernel⟩⟩
theorem cm_De_callAllIn : CMV y_De_callAllIn cX1_callAllIn 7 none 1 := ⟨tb_t 756 (by decide +kernel) (by decide +kernel), tb_t 757 (by decide +kernel) (by decide +kernel), it_De, tb_t 758 (by decide +kernel) (by decide +kernel), ⟨by decide, by decide, by decide +kernel⟩⟩
theorem cm_De_dueFrom : CMV y_De_dueFrom cX1_dueFrom 4 (some .int) 1 := ⟨tb_t 695 (by decide +kernel) (by decide +kernel), tb_s 21 (by decide +kernel) (by decide +kernel), it_De, tb_t 696 (by decide +kernel) (by decide +kernel), ⟨by decide, by decide, by decide +kernel⟩⟩
theorem cm_De_doneFor : CMV y_De_doneFor cX1_doneFor 5 (some .int) 2 := ⟨tb_t 690 (by decide +kernel) (by decide +kernel), tb_s 20 (by decide +kernel) (by decide +kernel), it_De, tb_t 691 (by decide +kernel) (by decide +kernel), ⟨by decide, by decide, by decide +kernel⟩⟩
theorem cm_Fr_init : CMI y_Fr_init cX2_init 1 0 := ⟨tb_t 261 (by decide +kernel) (by decide +kernel), it_Fr, tb_t 262 (by decide +kernel) (by decide +kernel), rfl, ⟨by decide, by decide, by decide +kernel⟩⟩
theorem cm_Fr_become : CMV y_Fr_become cX2_become 7 none 2 := ⟨tb_t 822 (by decide +kernel) (by decide +kernel), tb_t 823 (by decide +kernel) (by decide +kernel), it_Fr, tb_t 824 (by decide +kernel) (by decide +kernel), ⟨by decide, by decide, by decide +kernel⟩⟩
theorem cm_Fr_commonDivisor : CMS y_Fr_commonDivisor cX2_commonDivisor 7 (some .long) 2 := ⟨tb_t 826 (by decide +kernel) (by decide +kernel), it_Fr, tb_t 827 (by decide +kernel) (by decide +kernel), ⟨by decide, by decide, by decide +kernel⟩⟩
theorem cm_Hi_init : CMI y_Hi_init cX3_init 1 0 := ⟨tb_t 29 (by decide +kernel) (by decide +kernel), it_Hi, tb_t 30 (by decide +kernel) (by decide +kernel), rfl, ⟨by decide, by decide, by decide +kernel⟩⟩
theorem cm_Hi_keepNight : CMV y_Hi_keepNight cX3_keepNight 1 none 0 := ⟨tb_t 599 (by decide +kernel) (by decide +kernel), tb_t 600 (by decide +kernel) (by decide +kernel), it_Hi, tb_t 601 (by decide +kernel) (by decide +kernel), ⟨by decide, by decide, by decide +kernel⟩⟩
theorem cm_Hi_goBack : CMV y_Hi_goBack cX3_goBack 1 none 0 := ⟨tb_t 617 (by decide +kernel) (by decide +kernel), tb_t 618 (by decide +kernel) (by decide +kernel), it_Hi, tb_t 619 (by decide +kernel) (by decide +kernel), ⟨by decide, by decide, by decide +kernel⟩⟩
theorem cm_Hi_copyFrom : CMV y_Hi_copyFrom cX3_copyFrom 2 none 1 := ⟨tb_t 841 (by decide +kernel) (by decide +kernel), tb_t 842 (by decide +kernel) (by decide +kernel), it_Hi, tb_t 843 (by decide +kernel) (by decide +kernel), ⟨by decide, by decide, by decide +kernel⟩⟩
theorem cm_Pl_init : CMI y_Pl_init cX4_init 1 0 := ⟨tb_t 210 (by decide +kernel) (by decide +kernel), it_Pl, tb_t 211 (by decide +kernel) (by decide +kernel), rfl, ⟨by decide, by decide, by decide +kernel⟩⟩
theorem cm_Pl_make : CMV y_Pl_make cX4_make 3 none 1 := ⟨tb_t 716 (by decide +kernel) (by decide +kernel), tb_t 717 (by decide +kernel) (by decide +kernel), it_Pl, tb_t 718 (by decide +kernel) (by decide +kernel), ⟨by decide, by decide, by decide +kernel⟩⟩
theorem cm_Pl_favourOf : CMV y_Pl_favourOf cX4_favourOf 2 (some .int) 1 := ⟨tb_t 748 (by decide +kernel) (by decide +kernel), tb_t 749 (by decide +kernel) (by decide +kernel), it_Pl, tb_t 750 (by decide +kernel) (by decide +kernel), ⟨by decide, by decide, by decide +kernel⟩⟩
theorem cm_Pl_layOut : CMV y_Pl_layOut cX4_layOut 8 none 2 := ⟨tb_t 723 (by decide +kernel) (by decide +kernel), tb_s 23 (by decide +kernel) (by decide +kernel), it_Pl, tb_t 724 (by decide +kernel) (by decide +kernel), ⟨by decide, by decide, by decide +kernel⟩⟩
theorem cm_Pl_lookAhead : CMV y_Pl_lookAhead cX4_lookAhead 5 none 0 := ⟨tb_t 729 (by decide +kernel) (by decide +kernel), tb_s 24 (by decide +kernel) (by decide +kernel), it_Pl, tb_t 730 (by decide +kernel) (by decide +kernel), ⟨by decide, by decide, by decide +kernel⟩⟩
theorem cm_Pl_search : CMS y_Pl_search cX4_search 9 none 5 := ⟨tb_t 732 (by decide +kernel) (by decide +kernel), it_Pl, tb_t 733 (by decide +kernel) (by decide +kernel), ⟨by decide, by decide, by decide +kernel⟩⟩
theorem cm_Pl_isNoBetter : CMV y_Pl_isNoBetter cX4_isNoBetter 3 (some .boolean) 2 := ⟨tb_t 740 (by decide +kernel) (by decide +kernel), tb_s 26 (by decide +kernel) (by decide +kernel), it_Pl, tb_t 741 (by decide +kernel) (by decide +kernel), ⟨by decide, by decide, by decide +kernel⟩⟩
theorem cm_Pl_keepIfBetter : CMV y_Pl_keepIfBetter cX4_keepIfBetter 4 none 2 := ⟨tb_t 736 (by decide +kernel) (by decide +kernel), tb_s 25 (by decide +kernel) (by decide +kernel), it_Pl, tb_t 737 (by decide +kernel) (by decide +kernel), ⟨by decide, by decide, by decide +kernel⟩⟩
theorem cm_Re_init : CMI y_Re_init cX5_init 1 0 := ⟨tb_t 115 (by decide +kernel) (by decide +kernel), it_Re, tb_t 116 (by decide +kernel) (by decide +kernel), rfl, ⟨by decide, by decide, by decide +kernel⟩⟩
theorem cm_Re_readStreet : CMV y_Re_readStreet cX5_readStreet 2 (some .int) 0 := ⟨tb_t 418 (by decide +kernel) (by decide +kernel), tb_t 419 (by decide +kernel) (by decide +kernel), it_Re, tb_t 420 (by decide +kernel) (by decide +kernel), ⟨by decide, by decide, by decide +kernel⟩⟩
theorem cm_Re_readPeople : CMV y_Re_readPeople cX5_readPeople 2 none 0 := ⟨tb_t 440 (by decide +kernel) (by decide +kernel), tb_s 7 (by decide +kernel) (by decide +kernel), it_Re, tb_t 441 (by decide +kernel) (by decide +kernel), ⟨by decide, by decide, by decide +kernel⟩⟩
theorem cm_Re_readItem : CMV y_Re_readItem cX5_readItem 1 none 0 := ⟨tb_t 510 (by decide +kernel) (by decide +kernel), tb_s 12 (by decide +kernel) (by decide +kernel), it_Re, tb_t 511 (by decide +kernel) (by decide +kernel), ⟨by decide, by decide, by decide +kernel⟩⟩
theorem cm_Re_readStrong : CMV y_Re_readStrong cX5_readStrong 3 none 0 := ⟨tb_t 515 (by decide +kernel) (by decide +kernel), tb_s 13 (by decide +kernel) (by decide +kernel), it_Re, tb_t 516 (by decide +kernel) (by decide +kernel), ⟨by decide, by decide, by decide +kernel⟩⟩
theorem cm_Re_readFavour : CMV y_Re_readFavour cX5_readFavour 7 none 0 := ⟨tb_t 522 (by decide +kernel) (by decide +kernel), tb_s 14 (by decide +kernel) (by decide +kernel), it_Re, tb_t 523 (by decide +kernel) (by decide +kernel), ⟨by decide, by decide, by decide +kernel⟩⟩
theorem cm_Re_readNeed : CMV y_Re_readNeed cX5_readNeed 5 none 0 := ⟨tb_t 532 (by decide +kernel) (by decide +kernel), tb_s 16 (by decide +kernel) (by decide +kernel), it_Re, tb_t 533 (by decide +kernel) (by decide +kernel), ⟨by decide, by decide, by decide +kernel⟩⟩
theorem cm_Re_refuse : CMV y_Re_refuse cX5_refuse 2 none 1 := ⟨tb_t 526 (by decide +kernel) (by decide +kernel), tb_s 15 (by decide +kernel) (by decide +kernel), it_Re, tb_t 527 (by decide +kernel) (by decide +kernel), ⟨by decide, by decide, by decide +kernel⟩⟩
theorem cm_Re_takeNumber : CMV y_Re_takeNumber cX5_takeNumber 4 (some .int) 2 := ⟨tb_t 501 (by decide +kernel) (by decide +kernel), tb_s 10 (by decide +kernel) (by decide +kernel), it_Re, tb_t 502 (by decide +kernel) (by decide +kernel), ⟨by decide, by decide, by decide +kernel⟩⟩
theorem cm_Re_takeStop : CMV y_Re_takeStop cX5_takeStop 1 none 0 := ⟨tb_t 505 (by decide +kernel) (by decide +kernel), tb_s 11 (by decide +kernel) (by decide +kernel), it_Re, tb_t 506 (by decide +kernel) (by decide +kernel), ⟨by decide, by decide, by decide +kernel⟩⟩
theorem cm_Re_fail : CMV y_Re_fail cX5_fail 1 none 0 := ⟨tb_t 497 (by decide +kernel) (by decide +kernel), tb_s 9 (by decide +kernel) (by decide +kernel), it_Re, tb_t 498 (by decide +kernel) (by decide +kernel), ⟨by decide, by decide, by decide +kernel⟩⟩
theorem cm_Re_step : CMV y_Re_step cX5_step 2 none 0 := ⟨tb_t 423 (by decide +kernel) (by decide +kernel), tb_s 4 (by decide +kernel) (by decide +kernel), it_Re, tb_t 424 (by decide +kernel) (by decide +kernel), ⟨by decide, by decide, by decide +kernel⟩⟩
theorem cm_Re_endOfRun : CMV y_Re_endOfRun cX5_endOfRun 4 (some .int) 2 := ⟨tb_t 432 (by decide +kernel) (by decide +kernel), tb_s 5 (by decide +kernel) (by decide +kernel), it_Re, tb_t 433 (by decide +kernel) (by decide +kernel), ⟨by decide, by decide, by decide +kernel⟩⟩
theorem cm_Re_takeFigures : CMV y_Re_takeFigures cX5_takeFigures 2 none 0 := ⟨tb_t 436 (by decide +kernel) (by decide +kernel), tb_s 6 (by decide +kernel) (by decide +kernel), it_Re, tb_t 437 (by decide +kernel) (by decide +kernel), ⟨by decide, by decide, by decide +kernel⟩⟩
theorem cm_Re_isWord : CMV y_Re_isWord cX5_isWord 3 (some .boolean) 1 := ⟨tb_t 445 (by decide +kernel) (by decide +kernel), tb_s 8 (by decide +kernel) (by decide +kernel), it_Re, tb_t 446 (by decide +kernel) (by decide +kernel), ⟨by decide, by decide, by decide +kernel⟩⟩
theorem cm_St_init : CMI y_St_init cX6_init 1 0 := ⟨tb_t 35 (by decide +kernel) (by decide +kernel), it_St, tb_t 36 (by decide +kernel) (by decide +kernel), rfl, ⟨by decide, by decide, by decide +kernel⟩⟩
theorem cm_St_open : CMV y_St_open cX6_open 4 none 1 := ⟨tb_t 274 (by decide +kernel) (by decide +kernel), tb_t 275 (by decide +kernel) (by decide +kernel), it_St, tb_t 276 (by decide +kernel) (by decide +kernel), ⟨by decide, by decide, by decide +kernel⟩⟩
theorem cm_St_copyFrom : CMV y_St_copyFrom cX6_copyFrom 2 none 1 := ⟨tb_t 603 (by decide +kernel) (by decide +kernel), tb_t 604 (by decide +kernel) (by decide +kernel), it_St, tb_t 605 (by decide +kernel) (by decide +kernel), ⟨by decide, by decide, by decide +kernel⟩⟩
theorem cm_St_takeAllButRates : CMV y_St_takeAllButRates cX6_takeAllButRates 2 none 1 := ⟨tb_t 536 (by decide +kernel) (by decide +kernel), tb_t 537 (by decide +kernel) (by decide +kernel), it_St, tb_t 538 (by decide +kernel) (by decide +kernel), ⟨by decide, by decide, by decide +kernel⟩⟩
theorem cm_St_addFavour : CMV y_St_addFavour cX6_addFavour 8 (some .int) 6 := ⟨tb_t 381 (by decide +kernel) (by decide +kernel), tb_t 382 (by decide +kernel) (by decide +kernel), it_St, tb_t 383 (by decide +kernel) (by decide +kernel), ⟨by decide, by decide, by decide +kernel⟩⟩
theorem cm_St_addNeed : CMV y_St_addNeed cX6_addNeed 6 (some .int) 4 := ⟨tb_t 393 (by decide +kernel) (by decide +kernel), tb_t 394 (by decide +kernel) (by decide +kernel), it_St, tb_t 395 (by decide +kernel) (by decide +kernel), ⟨by decide, by decide, by decide +kernel⟩⟩
theorem cm_St_addPass : CMV y_St_addPass cX6_addPass 5 (some .int) 3 := ⟨tb_t 792 (by decide +kernel) (by decide +kernel), tb_t 793 (by decide +kernel) (by decide +kernel), it_St, tb_t 794 (by decide +kernel) (by decide +kernel), ⟨by decide, by decide, by decide +kernel⟩⟩
theorem cm_St_wake : CMV y_St_wake cX6_wake 2 none 0 := ⟨tb_t 609 (by decide +kernel) (by decide +kernel), tb_t 610 (by decide +kernel) (by decide +kernel), it_St, tb_t 611 (by decide +kernel) (by decide +kernel), ⟨by decide, by decide, by decide +kernel⟩⟩
theorem cm_St_valueNow : CMV y_St_valueNow cX6_valueNow 2 (some .int) 1 := ⟨tb_t 569 (by decide +kernel) (by decide +kernel), tb_t 570 (by decide +kernel) (by decide +kernel), it_St, tb_t 571 (by decide +kernel) (by decide +kernel), ⟨by decide, by decide, by decide +kernel⟩⟩
theorem cm_St_valueOn : CMV y_St_valueOn cX6_valueOn 7 (some .int) 2 := ⟨tb_t 555 (by decide +kernel) (by decide +kernel), tb_t 556 (by decide +kernel) (by decide +kernel), it_St, tb_t 557 (by decide +kernel) (by decide +kernel), ⟨by decide, by decide, by decide +kernel⟩⟩
theorem cm_St_areAlike : CMV y_St_areAlike cX6_areAlike 3 (some .boolean) 2 := ⟨tb_t 582 (by decide +kernel) (by decide +kernel), tb_t 583 (by decide +kernel) (by decide +kernel), it_St, tb_t 584 (by decide +kernel) (by decide +kernel), ⟨by decide, by decide, by decide +kernel⟩⟩
theorem cm_St_merge : CMV y_St_merge cX6_merge 4 (some .int) 2 := ⟨tb_t 586 (by decide +kernel) (by decide +kernel), tb_t 587 (by decide +kernel) (by decide +kernel), it_St, tb_t 588 (by decide +kernel) (by decide +kernel), ⟨by decide, by decide, by decide +kernel⟩⟩
theorem cm_St_cheapest : CMV y_St_cheapest cX6_cheapest 6 (some .int) 2 := ⟨tb_t 676 (by decide +kernel) (by decide +kernel), tb_t 677 (by decide +kernel) (by decide +kernel), it_St, tb_t 678 (by decide +kernel) (by decide +kernel), ⟨by decide, by decide, by decide +kernel⟩⟩
theorem cm_St_holderAhead : CMV y_St_holderAhead cX6_holderAhead 6 (some .int) 1 := ⟨tb_t 800 (by decide +kernel) (by decide +kernel), tb_t 801 (by decide +kernel) (by decide +kernel), it_St, tb_t 802 (by decide +kernel) (by decide +kernel), ⟨by decide, by decide, by decide +kernel⟩⟩
theorem cm_St_rateNow : CMV y_St_rateNow cX6_rateNow 2 (some .int) 1 := ⟨tb_t 764 (by decide +kernel) (by decide +kernel), tb_t 765 (by decide +kernel) (by decide +kernel), it_St, tb_t 766 (by decide +kernel) (by decide +kernel), ⟨by decide, by decide, by decide +kernel⟩⟩
theorem cm_St_setRate : CMV y_St_setRate cX6_setRate 3 none 2 := ⟨tb_t 298 (by decide +kernel) (by decide +kernel), tb_t 299 (by decide +kernel) (by decide +kernel), it_St, tb_t 300 (by decide +kernel) (by decide +kernel), ⟨by decide, by decide, by decide +kernel⟩⟩
theorem cm_St_drift : CMV y_St_drift cX6_drift 4 (some .int) 1 := ⟨tb_t 768 (by decide +kernel) (by decide +kernel), tb_t 769 (by decide +kernel) (by decide +kernel), it_St, tb_t 770 (by decide +kernel) (by decide +kernel), ⟨by decide, by decide, by decide +kernel⟩⟩
theorem cm_Ta_init : CMI y_Ta_init cX7_init 3 2 := ⟨tb_t 41 (by decide +kernel) (by decide +kernel), it_Ta, tb_t 42 (by decide +kernel) (by decide +kernel), rfl, ⟨by decide, by decide, by decide +kernel⟩⟩
theorem cm_Ta_has : CMV y_Ta_has cX7_has 2 (some .boolean) 1 := ⟨tb_t 357 (by decide +kernel) (by decide +kernel), tb_t 358 (by decide +kernel) (by decide +kernel), it_Ta, tb_t 359 (by decide +kernel) (by decide +kernel), ⟨by decide, by decide, by decide +kernel⟩⟩
theorem cm_Ta_isFull : CMV y_Ta_isFull cX7_isFull 1 (some .boolean) 0 := ⟨tb_t 286 (by decide +kernel) (by decide +kernel), tb_t 287 (by decide +kernel) (by decide +kernel), it_Ta, tb_t 288 (by decide +kernel) (by decide +kernel), ⟨by decide, by decide, by decide +kernel⟩⟩
theorem cm_Ta_at : CMV y_Ta_at cX7_at 4 (some .int) 2 := ⟨tb_t 361 (by decide +kernel) (by decide +kernel), tb_t 362 (by decide +kernel) (by decide +kernel), it_Ta, tb_t 363 (by decide +kernel) (by decide +kernel), ⟨by decide, by decide, by decide +kernel⟩⟩
theorem cm_Ta_put : CMV y_Ta_put cX7_put 5 none 3 := ⟨tb_t 290 (by decide +kernel) (by decide +kernel), tb_t 291 (by decide +kernel) (by decide +kernel), it_Ta, tb_t 292 (by decide +kernel) (by decide +kernel), ⟨by decide, by decide, by decide +kernel⟩⟩
theorem cm_Ta_more : CMV y_Ta_more cX7_more 4 none 3 := ⟨tb_t 638 (by decide +kernel) (by decide +kernel), tb_t 639 (by decide +kernel) (by decide +kernel), it_Ta, tb_t 640 (by decide +kernel) (by decide +kernel), ⟨by decide, by decide, by decide +kernel⟩⟩
theorem cm_Ta_fillRow : CMV y_Ta_fillRow cX7_fillRow 4 none 2 := ⟨tb_t 631 (by decide +kernel) (by decide +kernel), tb_t 632 (by decide +kernel) (by decide +kernel), it_Ta, tb_t 633 (by decide +kernel) (by decide +kernel), ⟨by decide, by decide, by decide +kernel⟩⟩
theorem cm_Ta_add : CMV y_Ta_add cX7_add 1 (some .int) 0 := ⟨tb_t 282 (by decide +kernel) (by decide +kernel), tb_t 283 (by decide +kernel) (by decide +kernel), it_Ta, tb_t 284 (by decide +kernel) (by decide +kernel), ⟨by decide, by decide, by decide +kernel⟩⟩
theorem cm_Ta_empty : CMV y_Ta_empty cX7_empty 2 (some .int) 0 := ⟨tb_t 278 (by decide +kernel) (by decide +kernel), tb_t 279 (by decide +kernel) (by decide +kernel), it_Ta, tb_t 280 (by decide +kernel) (by decide +kernel), ⟨by decide, by decide, by decide +kernel⟩⟩
theorem cm_Ta_copyFrom : CMV y_Ta_copyFrom cX7_copyFrom 2 none 1 := ⟨tb_t 540 (by decide +kernel) (by decide +kernel), tb_t 541 (by decide +kernel) (by decide +kernel), it_Ta, tb_t 542 (by decide +kernel) (by decide +kernel), ⟨by decide, by decide, by decide +kernel⟩⟩
theorem cm_Ta_mixedInto : CMV y_Ta_mixedInto cX7_mixedInto 5 (some .long) 1 := ⟨tb_t 867 (by decide +kernel) (by decide +kernel), tb_t 868 (by decide +kernel) (by decide +kernel), it_Ta, tb_t 869 (by decide +kernel) (by decide +kernel), ⟨by decide, by decide, by decide +kernel⟩⟩
theorem cm_Ta_placeOf : CMV y_Ta_placeOf cX7_placeOf 4 (some .int) 2 := ⟨tb_t 295 (by decide +kernel) (by decide +kernel), tb_s 0 (by decide +kernel) (by decide +kernel), it_Ta, tb_t 296 (by decide +kernel) (by decide +kernel), ⟨by decide, by decide, by decide +kernel⟩⟩
theorem cm_Te_init : CMI y_Te_init cX8_init 1 0 := ⟨tb_t 121 (by decide +kernel) (by decide +kernel), it_Te, tb_t 122 (by decide +kernel) (by decide +kernel), rfl, ⟨by decide, by decide, by decide +kernel⟩⟩
theorem cm_Te_add : CMV y_Te_add cX8_add 2 none 1 := ⟨tb_t 406 (by decide +kernel) (by decide +kernel), tb_t 407 (by decide +kernel) (by decide +kernel), it_Te, tb_t 408 (by decide +kernel) (by decide +kernel), ⟨by decide, by decide, by decide +kernel⟩⟩
theorem cm_Te_at : CMV y_Te_at cX8_at 2 (some .int) 1 := ⟨tb_t 426 (by decide +kernel) (by decide +kernel), tb_t 427 (by decide +kernel) (by decide +kernel), it_Te, tb_t 428 (by decide +kernel) (by decide +kernel), ⟨by decide, by decide, by decide +kernel⟩⟩
theorem cm_Fa_init : CMI y_Fa_init cX9_init 2 0 := ⟨tb_t 21 (by decide +kernel) (by decide +kernel), it_Fa, tb_t 22 (by decide +kernel) (by decide +kernel), rfl, ⟨by decide, by decide, by decide +kernel⟩⟩
theorem cm_Fa_people : CMV y_Fa_people cX9_people 3 (some .int) 1 := ⟨tb_t 342 (by decide +kernel) (by decide +kernel), tb_t 343 (by decide +kernel) (by decide +kernel), it_Fa, tb_t 344 (by decide +kernel) (by decide +kernel), ⟨by decide, by decide, by decide +kernel⟩⟩
theorem cm_Fa_strong : CMV y_Fa_strong cX9_strong 4 (some .int) 2 := ⟨tb_t 353 (by decide +kernel) (by decide +kernel), tb_t 354 (by decide +kernel) (by decide +kernel), it_Fa, tb_t 355 (by decide +kernel) (by decide +kernel), ⟨by decide, by decide, by decide +kernel⟩⟩
theorem cm_Fa_favour : CMV y_Fa_favour cX9_favour 8 (some .int) 6 := ⟨tb_t 366 (by decide +kernel) (by decide +kernel), tb_t 367 (by decide +kernel) (by decide +kernel), it_Fa, tb_t 368 (by decide +kernel) (by decide +kernel), ⟨by decide, by decide, by decide +kernel⟩⟩
theorem cm_Fa_need : CMV y_Fa_need cX9_need 5 (some .int) 4 := ⟨tb_t 385 (by decide +kernel) (by decide +kernel), tb_t 386 (by decide +kernel) (by decide +kernel), it_Fa, tb_t 387 (by decide +kernel) (by decide +kernel), ⟨by decide, by decide, by decide +kernel⟩⟩
theorem cm_Fa_contented : CMV y_Fa_contented cX9_contented 1 (some .int) 0 := ⟨tb_t 397 (by decide +kernel) (by decide +kernel), tb_t 398 (by decide +kernel) (by decide +kernel), it_Fa, tb_t 399 (by decide +kernel) (by decide +kernel), ⟨by decide, by decide, by decide +kernel⟩⟩
theorem cm_Fa_type : CMV y_Fa_type cX9_type 5 (some .int) 2 := ⟨tb_t 402 (by decide +kernel) (by decide +kernel), tb_t 403 (by decide +kernel) (by decide +kernel), it_Fa, tb_t 404 (by decide +kernel) (by decide +kernel), ⟨by decide, by decide, by decide +kernel⟩⟩
theorem cm_Fa_clear : CMV y_Fa_clear cX9_clear 2 (some .int) 0 := ⟨tb_t 410 (by decide +kernel) (by decide +kernel), tb_t 411 (by decide +kernel) (by decide +kernel), it_Fa, tb_t 412 (by decide +kernel) (by decide +kernel), ⟨by decide, by decide, by decide +kernel⟩⟩
theorem cm_Fa_read : CMV y_Fa_read cX9_read 2 (some .int) 0 := ⟨tb_t 414 (by decide +kernel) (by decide +kernel), tb_t 415 (by decide +kernel) (by decide +kernel), it_Fa, tb_t 416 (by decide +kernel) (by decide +kernel), ⟨by decide, by decide, by decide +kernel⟩⟩
theorem cm_Fa_value : CMV y_Fa_value cX9_value 3 (some .int) 2 := ⟨tb_t 551 (by decide +kernel) (by decide +kernel), tb_t 552 (by decide +kernel) (by decide +kernel), it_Fa, tb_t 553 (by decide +kernel) (by decide +kernel), ⟨by decide, by decide, by decide +kernel⟩⟩
theorem cm_Fa_of : CMV y_Fa_of cX9_of 2 (some .int) 1 := ⟨tb_t 561 (by decide +kernel) (by decide +kernel), tb_t 562 (by decide +kernel) (by decide +kernel), it_Fa, tb_t 563 (by decide +kernel) (by decide +kernel), ⟨by decide, by decide, by decide +kernel⟩⟩
theorem cm_Fa_pass : CMV y_Fa_pass cX9_pass 4 (some .int) 2 := ⟨tb_t 565 (by decide +kernel) (by decide +kernel), tb_t 566 (by decide +kernel) (by decide +kernel), it_Fa, tb_t 567 (by decide +kernel) (by decide +kernel), ⟨by decide, by decide, by decide +kernel⟩⟩
theorem cm_Fa_join : CMV y_Fa_join cX9_join 3 (some .int) 2 := ⟨tb_t 578 (by decide +kernel) (by decide +kernel), tb_t 579 (by decide +kernel) (by decide +kernel), it_Fa, tb_t 580 (by decide +kernel) (by decide +kernel), ⟨by decide, by decide, by decide +kernel⟩⟩
theorem cm_Fa_ask : CMV y_Fa_ask cX9_ask 5 (some .int) 1 := ⟨tb_t 591 (by decide +kernel) (by decide +kernel), tb_t 592 (by decide +kernel) (by decide +kernel), it_Fa, tb_t 593 (by decide +kernel) (by decide +kernel), ⟨by decide, by decide, by decide +kernel⟩⟩
theorem cm_Fa_night : CMV y_Fa_night cX9_night 1 (some .int) 0 := ⟨tb_t 595 (by decide +kernel) (by decide +kernel), tb_t 596 (by decide +kernel) (by decide +kernel), it_Fa, tb_t 597 (by decide +kernel) (by decide +kernel), ⟨by decide, by decide, by decide +kernel⟩⟩
theorem cm_Fa_undo : CMV y_Fa_undo cX9_undo 1 (some .int) 0 := ⟨tb_t 613 (by decide +kernel) (by decide +kernel), tb_t 614 (by decide +kernel) (by decide +kernel), it_Fa, tb_t 615 (by decide +kernel) (by decide +kernel), ⟨by decide, by decide, by decide +kernel⟩⟩
theorem cm_Fa_owes : CMV y_Fa_owes cX9_owes 3 (some .int) 2 := ⟨tb_t 622 (by decide +kernel) (by decide +kernel), tb_t 623 (by decide +kernel) (by decide +kernel), it_Fa, tb_t 624 (by decide +kernel) (by decide +kernel), ⟨by decide, by decide, by decide +kernel⟩⟩
theorem cm_Fa_ring : CMV y_Fa_ring cX9_ring 2 (some .int) 1 := ⟨tb_t 647 (by decide +kernel) (by decide +kernel), tb_t 648 (by decide +kernel) (by decide +kernel), it_Fa, tb_t 649 (by decide +kernel) (by decide +kernel), ⟨by decide, by decide, by decide +kernel⟩⟩
theorem cm_Fa_cancel : CMV y_Fa_cancel cX9_cancel 5 (some .int) 0 := ⟨tb_t 672 (by decide +kernel) (by decide +kernel), tb_t 673 (by decide +kernel) (by decide +kernel), it_Fa, tb_t 674 (by decide +kernel) (by decide +kernel), ⟨by decide, by decide, by decide +kernel⟩⟩
theorem cm_Fa_net : CMV y_Fa_net cX9_net 2 (some .int) 1 := ⟨tb_t 681 (by decide +kernel) (by decide +kernel), tb_t 682 (by decide +kernel) (by decide +kernel), it_Fa, tb_t 683 (by decide +kernel) (by decide +kernel), ⟨by decide, by decide, by decide +kernel⟩⟩
theorem cm_Fa_fewest : CMV y_Fa_fewest cX9_fewest 1 (some .int) 0 := ⟨tb_t 698 (by decide +kernel) (by decide +kernel), tb_t 699 (by decide +kernel) (by decide +kernel), it_Fa, tb_t 700 (by decide +kernel) (by decide +kernel), ⟨by decide, by decide, by decide +kernel⟩⟩
theorem cm_Fa_met : CMV y_Fa_met cX9_met 2 (some .int) 1 := ⟨tb_t 712 (by decide +kernel) (by decide +kernel), tb_t 713 (by decide +kernel) (by decide +kernel), it_Fa, tb_t 714 (by decide +kernel) (by decide +kernel), ⟨by decide, by decide, by decide +kernel⟩⟩
theorem cm_Fa_plan : CMV y_Fa_plan cX9_plan 2 (some .int) 1 := ⟨tb_t 744 (by decide +kernel) (by decide +kernel), tb_t 745 (by decide +kernel) (by decide +kernel), it_Fa, tb_t 746 (by decide +kernel) (by decide +kernel), ⟨by decide, by decide, by decide +kernel⟩⟩
theorem cm_Fa_fire : CMV y_Fa_fire cX9_fire 3 (some .int) 2 := ⟨tb_t 752 (by decide +kernel) (by decide +kernel), tb_t 753 (by decide +kernel) (by decide +kernel), it_Fa, tb_t 754 (by decide +kernel) (by decide +kernel), ⟨by decide, by decide, by decide +kernel⟩⟩
theorem cm_Fa_rate : CMV y_Fa_rate cX9_rate 3 (some .int) 2 := ⟨tb_t 760 (by decide +kernel) (by decide +kernel), tb_t 761 (by decide +kernel) (by decide +kernel), it_Fa, tb_t 762 (by decide +kernel) (by decide +kernel), ⟨by decide, by decide, by decide +kernel⟩⟩
theorem cm_Fa_set : CMV y_Fa_set cX9_set 4 (some .int) 2 := ⟨tb_t 777 (by decide +kernel) (by decide +kernel), tb_t 778 (by decide +kernel) (by decide +kernel), it_Fa, tb_t 779 (by decide +kernel) (by decide +kernel), ⟨by decide, by decide, by decide +kernel⟩⟩
theorem cm_Fa_settles : CMV y_Fa_settles cX9_settles 4 (some .int) 0 := ⟨tb_t 781 (by decide +kernel) (by decide +kernel), tb_t 782 (by decide +kernel) (by decide +kernel), it_Fa, tb_t 783 (by decide +kernel) (by decide +kernel), ⟨by decide, by decide, by decide +kernel⟩⟩
theorem cm_Fa_told : CMV y_Fa_told cX9_told 4 (some .int) 3 := ⟨tb_t 788 (by decide +kernel) (by decide +kernel), tb_t 789 (by decide +kernel) (by decide +kernel), it_Fa, tb_t 790 (by decide +kernel) (by decide +kernel), ⟨by decide, by decide, by decide +kernel⟩⟩
theorem cm_Fa_forged : CMV y_Fa_forged cX9_forged 2 (some .int) 0 := ⟨tb_t 796 (by decide +kernel) (by decide +kernel), tb_t 797 (by decide +kernel) (by decide +kernel), it_Fa, tb_t 798 (by decide +kernel) (by decide +kernel), ⟨by decide, by decide, by decide +kernel⟩⟩
theorem cm_Fa_forget : CMV y_Fa_forget cX9_forget 1 (some .int) 0 := ⟨tb_t 804 (by decide +kernel) (by decide +kernel), tb_t 805 (by decide +kernel) (by decide +kernel), it_Fa, tb_t 806 (by decide +kernel) (by decide +kernel), ⟨by decide, by decide, by decide +kernel⟩⟩
theorem cm_Fa_goesOff : CMV y_Fa_goesOff cX9_goesOff 4 (some .int) 1 := ⟨tb_t 808 (by decide +kernel) (by decide +kernel), tb_t 809 (by decide +kernel) (by decide +kernel), it_Fa, tb_t 810 (by decide +kernel) (by decide +kernel), ⟨by decide, by decide, by decide +kernel⟩⟩
theorem cm_Fa_kept : CMV y_Fa_kept cX9_kept 7 (some .int) 2 := ⟨tb_t 812 (by decide +kernel) (by decide +kernel), tb_t 813 (by decide +kernel) (by decide +kernel), it_Fa, tb_t 814 (by decide +kernel) (by decide +kernel), ⟨by decide, by decide, by decide +kernel⟩⟩
theorem cm_Fa_part : CMV y_Fa_part cX9_part 2 (some .long) 1 := ⟨tb_t 829 (by decide +kernel) (by decide +kernel), tb_t 830 (by decide +kernel) (by decide +kernel), it_Fa, tb_t 831 (by decide +kernel) (by decide +kernel), ⟨by decide, by decide, by decide +kernel⟩⟩
theorem cm_Fa_image : CMV y_Fa_image cX9_image 2 (some .int) 1 := ⟨tb_t 833 (by decide +kernel) (by decide +kernel), tb_t 834 (by decide +kernel) (by decide +kernel), it_Fa, tb_t 835 (by decide +kernel) (by decide +kernel), ⟨by decide, by decide, by decide +kernel⟩⟩
theorem cm_Fa_from : CMV y_Fa_from cX9_from 2 (some .int) 1 := ⟨tb_t 845 (by decide +kernel) (by decide +kernel), tb_t 846 (by decide +kernel) (by decide +kernel), it_Fa, tb_t 847 (by decide +kernel) (by decide +kernel), ⟨by decide, by decide, by decide +kernel⟩⟩
theorem cm_Fa_status : CMV y_Fa_status cX9_status 2 (some .int) 1 := ⟨tb_t 849 (by decide +kernel) (by decide +kernel), tb_t 850 (by decide +kernel) (by decide +kernel), it_Fa, tb_t 851 (by decide +kernel) (by decide +kernel), ⟨by decide, by decide, by decide +kernel⟩⟩
theorem cm_Fa_count : CMV y_Fa_count cX9_count 2 (some .int) 1 := ⟨tb_t 853 (by decide +kernel) (by decide +kernel), tb_t 854 (by decide +kernel) (by decide +kernel), it_Fa, tb_t 855 (by decide +kernel) (by decide +kernel), ⟨by decide, by decide, by decide +kernel⟩⟩
theorem cm_Fa_digest : CMV y_Fa_digest cX9_digest 4 (some .long) 0 := ⟨tb_t 861 (by decide +kernel) (by decide +kernel), tb_t 862 (by decide +kernel) (by decide +kernel), it_Fa, tb_t 863 (by decide +kernel) (by decide +kernel), ⟨by decide, by decide, by decide +kernel⟩⟩
theorem cm_Fa_howMany : CMV y_Fa_howMany cX9_howMany 2 (some .int) 1 := ⟨tb_t 858 (by decide +kernel) (by decide +kernel), tb_s 28 (by decide +kernel) (by decide +kernel), it_Fa, tb_t 859 (by decide +kernel) (by decide +kernel), ⟨by decide, by decide, by decide +kernel⟩⟩
theorem cm_Fa_imageAt : CMV y_Fa_imageAt cX9_imageAt 2 (some (.object "FavoursGoOff$History")) 1 := ⟨tb_t 838 (by decide +kernel) (by decide +kernel), tb_s 27 (by decide +kernel) (by decide +kernel), it_Fa, tb_t 839 (by decide +kernel) (by decide +kernel), ⟨by decide, by decide, by decide +kernel⟩⟩
theorem cm_Fa_findRing : CMV y_Fa_findRing cX9_findRing 1 none 0 := ⟨tb_t 652 (by decide +kernel) (by decide +kernel), tb_s 18 (by decide +kernel) (by decide +kernel), it_Fa, tb_t 653 (by decide +kernel) (by decide +kernel), ⟨by decide, by decide, by decide +kernel⟩⟩
theorem cm_Fa_bad : CMV y_Fa_bad cX9_bad 2 (some .int) 1 := ⟨tb_t 350 (by decide +kernel) (by decide +kernel), tb_s 1 (by decide +kernel) (by decide +kernel), it_Fa, tb_t 351 (by decide +kernel) (by decide +kernel), ⟨by decide, by decide, by decide +kernel⟩⟩
theorem cm_Fa_no : CMV y_Fa_no cX9_no 2 (some .int) 1 := ⟨tb_t 575 (by decide +kernel) (by decide +kernel), tb_s 17 (by decide +kernel) (by decide +kernel), it_Fa, tb_t 576 (by decide +kernel) (by decide +kernel), ⟨by decide, by decide, by decide +kernel⟩⟩
theorem cm_Fa_full : CMV y_Fa_full cX9_full 1 (some .int) 0 := ⟨tb_t 378 (by decide +kernel) (by decide +kernel), tb_s 2 (by decide +kernel) (by decide +kernel), it_Fa, tb_t 379 (by decide +kernel) (by decide +kernel), ⟨by decide, by decide, by decide +kernel⟩⟩
theorem cm_Fa_isDayToCome : CMV y_Fa_isDayToCome cX9_isDayToCome 2 (some .boolean) 1 := ⟨tb_t 390 (by decide +kernel) (by decide +kernel), tb_s 3 (by decide +kernel) (by decide +kernel), it_Fa, tb_t 391 (by decide +kernel) (by decide +kernel), ⟨by decide, by decide, by decide +kernel⟩⟩
theorem cm_Fa_isDay : CMS y_Fa_isDay cX9_isDay 1 (some .boolean) 1 := ⟨tb_t 373 (by decide +kernel) (by decide +kernel), it_Fa, tb_t 374 (by decide +kernel) (by decide +kernel), ⟨by decide, by decide, by decide +kernel⟩⟩
theorem cm_Fa_isThing : CMS y_Fa_isThing cX9_isThing 1 (some .boolean) 1 := ⟨tb_t 370 (by decide +kernel) (by decide +kernel), it_Fa, tb_t 371 (by decide +kernel) (by decide +kernel), ⟨by decide, by decide, by decide +kernel⟩⟩
theorem cm_Fa_isWithin : CMS y_Fa_isWithin cX9_isWithin 3 (some .boolean) 3 := ⟨tb_t 346 (by decide +kernel) (by decide +kernel), it_Fa, tb_t 347 (by decide +kernel) (by decide +kernel), ⟨by decide, by decide, by decide +kernel⟩⟩
theorem cm_Fa_heldRate : CMS y_Fa_heldRate cX9_heldRate 1 (some .int) 1 := ⟨tb_t 772 (by decide +kernel) (by decide +kernel), it_Fa, tb_t 773 (by decide +kernel) (by decide +kernel), ⟨by decide, by decide, by decide +kernel⟩⟩
theorem cm_Fa_lastChange : CMS y_Fa_lastChange cX9_lastChange 3 (some .int) 2 := ⟨tb_t 785 (by decide +kernel) (by decide +kernel), it_Fa, tb_t 786 (by decide +kernel) (by decide +kernel), ⟨by decide, by decide, by decide +kernel⟩⟩
theorem cm_Fa_power : CMS y_Fa_power cX9_power 5 (some .long) 2 := ⟨tb_t 819 (by decide +kernel) (by decide +kernel), it_Fa, tb_t 820 (by decide +kernel) (by decide +kernel), ⟨by decide, by decide, by decide +kernel⟩⟩
theorem cm_Fa_choices : CMS y_Fa_choices cX9_choices 5 (some .long) 2 := ⟨tb_t 816 (by decide +kernel) (by decide +kernel), it_Fa, tb_t 817 (by decide +kernel) (by decide +kernel), ⟨by decide, by decide, by decide +kernel⟩⟩
theorem cm_Mo_init : CMI y_Mo_init cX10_init 2 0 := ⟨tb_t 874 (by decide +kernel) (by decide +kernel), it_Mo, tb_t 875 (by decide +kernel) (by decide +kernel), rfl, ⟨by decide, by decide, by decide +kernel⟩⟩
theorem cm_Mo_in : CMS y_Mo_in cX10_in 6 (some .boolean) 3 := ⟨tb_t 961 (by decide +kernel) (by decide +kernel), it_Mo, tb_t 962 (by decide +kernel) (by decide +kernel), ⟨by decide, by decide, by decide +kernel⟩⟩
theorem cm_Mo_bad : CMV y_Mo_bad cX10_bad 2 (some .int) 1 := ⟨tb_t 965 (by decide +kernel) (by decide +kernel), tb_s 29 (by decide +kernel) (by decide +kernel), it_Mo, tb_t 966 (by decide +kernel) (by decide +kernel), ⟨by decide, by decide, by decide +kernel⟩⟩
theorem cm_Mo_no : CMV y_Mo_no cX10_no 2 (some .int) 1 := ⟨tb_t 1048 (by decide +kernel) (by decide +kernel), tb_s 38 (by decide +kernel) (by decide +kernel), it_Mo, tb_t 1049 (by decide +kernel) (by decide +kernel), ⟨by decide, by decide, by decide +kernel⟩⟩
theorem cm_Mo_full : CMV y_Mo_full cX10_full 1 (some .int) 0 := ⟨tb_t 995 (by decide +kernel) (by decide +kernel), tb_s 32 (by decide +kernel) (by decide +kernel), it_Mo, tb_t 996 (by decide +kernel) (by decide +kernel), ⟨by decide, by decide, by decide +kernel⟩⟩
theorem cm_Mo_tells : CMV y_Mo_tells cX10_tells 11 (some .int) 2 := ⟨tb_t 1193 (by decide +kernel) (by decide +kernel), tb_s 53 (by decide +kernel) (by decide +kernel), it_Mo, tb_t 1194 (by decide +kernel) (by decide +kernel), ⟨by decide, by decide, by decide +kernel⟩⟩
theorem cm_Mo_begin : CMS y_Mo_begin cX10_begin 3 none 2 := ⟨tb_t 878 (by decide +kernel) (by decide +kernel), it_Mo, tb_t 879 (by decide +kernel) (by decide +kernel), ⟨by decide, by decide, by decide +kernel⟩⟩
theorem cm_Mo_day : CMV y_Mo_day cX10_day 1 (some .int) 0 := ⟨tb_t 999 (by decide +kernel) (by decide +kernel), tb_s 33 (by decide +kernel) (by decide +kernel), it_Mo, tb_t 1000 (by decide +kernel) (by decide +kernel), ⟨by decide, by decide, by decide +kernel⟩⟩
theorem cm_Mo_many : CMV y_Mo_many cX10_many 1 (some .int) 0 := ⟨tb_t 969 (by decide +kernel) (by decide +kernel), tb_s 30 (by decide +kernel) (by decide +kernel), it_Mo, tb_t 970 (by decide +kernel) (by decide +kernel), ⟨by decide, by decide, by decide +kernel⟩⟩
theorem cm_Mo_isOne : CMV y_Mo_isOne cX10_isOne 2 (some .boolean) 1 := ⟨tb_t 977 (by decide +kernel) (by decide +kernel), tb_s 31 (by decide +kernel) (by decide +kernel), it_Mo, tb_t 978 (by decide +kernel) (by decide +kernel), ⟨by decide, by decide, by decide +kernel⟩⟩
theorem cm_Mo_isDay : CMS y_Mo_isDay cX10_isDay 1 (some .boolean) 1 := ⟨tb_t 991 (by decide +kernel) (by decide +kernel), it_Mo, tb_t 992 (by decide +kernel) (by decide +kernel), ⟨by decide, by decide, by decide +kernel⟩⟩
theorem cm_Mo_isThing : CMS y_Mo_isThing cX10_isThing 1 (some .boolean) 1 := ⟨tb_t 986 (by decide +kernel) (by decide +kernel), it_Mo, tb_t 987 (by decide +kernel) (by decide +kernel), ⟨by decide, by decide, by decide +kernel⟩⟩
theorem cm_Mo_isFavour : CMV y_Mo_isFavour cX10_isFavour 2 (some .boolean) 1 := ⟨tb_t 1021 (by decide +kernel) (by decide +kernel), tb_s 34 (by decide +kernel) (by decide +kernel), it_Mo, tb_t 1022 (by decide +kernel) (by decide +kernel), ⟨by decide, by decide, by decide +kernel⟩⟩
theorem cm_Mo_told0 : CMV y_Mo_told0 cX10_told0 3 (some .int) 2 := ⟨tb_t 1029 (by decide +kernel) (by decide +kernel), tb_s 36 (by decide +kernel) (by decide +kernel), it_Mo, tb_t 1030 (by decide +kernel) (by decide +kernel), ⟨by decide, by decide, by decide +kernel⟩⟩
theorem cm_Mo_people : CMV y_Mo_people cX10_people 3 (some .int) 1 := ⟨tb_t 955 (by decide +kernel) (by decide +kernel), tb_t 956 (by decide +kernel) (by decide +kernel), it_Mo, tb_t 957 (by decide +kernel) (by decide +kernel), ⟨by decide, by decide, by decide +kernel⟩⟩
theorem cm_Mo_strong : CMV y_Mo_strong cX10_strong 4 (some .int) 2 := ⟨tb_t 972 (by decide +kernel) (by decide +kernel), tb_t 973 (by decide +kernel) (by decide +kernel), it_Mo, tb_t 974 (by decide +kernel) (by decide +kernel), ⟨by decide, by decide, by decide +kernel⟩⟩
theorem cm_Mo_layFavour : CMS y_Mo_layFavour cX10_layFavour 10 none 9 := ⟨tb_t 1002 (by decide +kernel) (by decide +kernel), it_Mo, tb_t 1003 (by decide +kernel) (by decide +kernel), ⟨by decide, by decide, by decide +kernel⟩⟩
theorem cm_Mo_favour : CMV y_Mo_favour cX10_favour 8 (some .int) 6 := ⟨tb_t 981 (by decide +kernel) (by decide +kernel), tb_t 982 (by decide +kernel) (by decide +kernel), it_Mo, tb_t 983 (by decide +kernel) (by decide +kernel), ⟨by decide, by decide, by decide +kernel⟩⟩
theorem cm_Mo_layNeed : CMS y_Mo_layNeed cX10_layNeed 6 none 6 := ⟨tb_t 1009 (by decide +kernel) (by decide +kernel), it_Mo, tb_t 1010 (by decide +kernel) (by decide +kernel), ⟨by decide, by decide, by decide +kernel⟩⟩
theorem cm_Mo_need : CMV y_Mo_need cX10_need 6 (some .int) 4 := ⟨tb_t 1005 (by decide +kernel) (by decide +kernel), tb_t 1006 (by decide +kernel) (by decide +kernel), it_Mo, tb_t 1007 (by decide +kernel) (by decide +kernel), ⟨by decide, by decide, by decide +kernel⟩⟩
theorem cm_Mo_contented : CMV y_Mo_contented cX10_contented 2 (some .int) 0 := ⟨tb_t 1012 (by decide +kernel) (by decide +kernel), tb_t 1013 (by decide +kernel) (by decide +kernel), it_Mo, tb_t 1014 (by decide +kernel) (by decide +kernel), ⟨by decide, by decide, by decide +kernel⟩⟩
theorem cm_Mo_notBelow0 : CMS y_Mo_notBelow0 cX10_notBelow0 1 (some .int) 1 := ⟨tb_t 1032 (by decide +kernel) (by decide +kernel), it_Mo, tb_t 1033 (by decide +kernel) (by decide +kernel), ⟨by decide, by decide, by decide +kernel⟩⟩
theorem cm_Mo_valueOf : CMV y_Mo_valueOf cX10_valueOf 7 (some .int) 2 := ⟨tb_t 1025 (by decide +kernel) (by decide +kernel), tb_s 35 (by decide +kernel) (by decide +kernel), it_Mo, tb_t 1026 (by decide +kernel) (by decide +kernel), ⟨by decide, by decide, by decide +kernel⟩⟩
theorem cm_Mo_valueNow : CMV y_Mo_valueNow cX10_valueNow 2 (some .int) 1 := ⟨tb_t 1044 (by decide +kernel) (by decide +kernel), tb_s 37 (by decide +kernel) (by decide +kernel), it_Mo, tb_t 1045 (by decide +kernel) (by decide +kernel), ⟨by decide, by decide, by decide +kernel⟩⟩
theorem cm_Mo_value : CMV y_Mo_value cX10_value 3 (some .int) 2 := ⟨tb_t 1016 (by decide +kernel) (by decide +kernel), tb_t 1017 (by decide +kernel) (by decide +kernel), it_Mo, tb_t 1018 (by decide +kernel) (by decide +kernel), ⟨by decide, by decide, by decide +kernel⟩⟩
theorem cm_Mo_of : CMV y_Mo_of cX10_of 2 (some .int) 1 := ⟨tb_t 1035 (by decide +kernel) (by decide +kernel), tb_t 1036 (by decide +kernel) (by decide +kernel), it_Mo, tb_t 1037 (by decide +kernel) (by decide +kernel), ⟨by decide, by decide, by decide +kernel⟩⟩
theorem cm_Mo_lose : CMV y_Mo_lose cX10_lose 2 none 1 := ⟨tb_t 1052 (by decide +kernel) (by decide +kernel), tb_s 39 (by decide +kernel) (by decide +kernel), it_Mo, tb_t 1053 (by decide +kernel) (by decide +kernel), ⟨by decide, by decide, by decide +kernel⟩⟩
theorem cm_Mo_pass : CMV y_Mo_pass cX10_pass 3 (some .int) 2 := ⟨tb_t 1039 (by decide +kernel) (by decide +kernel), tb_t 1040 (by decide +kernel) (by decide +kernel), it_Mo, tb_t 1041 (by decide +kernel) (by decide +kernel), ⟨by decide, by decide, by decide +kernel⟩⟩
theorem cm_Mo_join : CMV y_Mo_join cX10_join 6 (some .int) 2 := ⟨tb_t 1055 (by decide +kernel) (by decide +kernel), tb_t 1056 (by decide +kernel) (by decide +kernel), it_Mo, tb_t 1057 (by decide +kernel) (by decide +kernel), ⟨by decide, by decide, by decide +kernel⟩⟩
theorem cm_Mo_ask : CMV y_Mo_ask cX10_ask 4 (some .int) 1 := ⟨tb_t 1059 (by decide +kernel) (by decide +kernel), tb_t 1060 (by decide +kernel) (by decide +kernel), it_Mo, tb_t 1061 (by decide +kernel) (by decide +kernel), ⟨by decide, by decide, by decide +kernel⟩⟩
theorem cm_Mo_night : CMV y_Mo_night cX10_night 2 (some .int) 0 := ⟨tb_t 1063 (by decide +kernel) (by decide +kernel), tb_t 1064 (by decide +kernel) (by decide +kernel), it_Mo, tb_t 1065 (by decide +kernel) (by decide +kernel), ⟨by decide, by decide, by decide +kernel⟩⟩
theorem cm_Mo_undo : CMV y_Mo_undo cX10_undo 2 (some .int) 0 := ⟨tb_t 1067 (by decide +kernel) (by decide +kernel), tb_t 1068 (by decide +kernel) (by decide +kernel), it_Mo, tb_t 1069 (by decide +kernel) (by decide +kernel), ⟨by decide, by decide, by decide +kernel⟩⟩
theorem cm_Mo_owesTo : CMV y_Mo_owesTo cX10_owesTo 5 (some .int) 2 := ⟨tb_t 1076 (by decide +kernel) (by decide +kernel), tb_s 40 (by decide +kernel) (by decide +kernel), it_Mo, tb_t 1077 (by decide +kernel) (by decide +kernel), ⟨by decide, by decide, by decide +kernel⟩⟩
theorem cm_Mo_owes : CMV y_Mo_owes cX10_owes 3 (some .int) 2 := ⟨tb_t 1071 (by decide +kernel) (by decide +kernel), tb_t 1072 (by decide +kernel) (by decide +kernel), it_Mo, tb_t 1073 (by decide +kernel) (by decide +kernel), ⟨by decide, by decide, by decide +kernel⟩⟩
theorem cm_Mo_layRing : CMV y_Mo_layRing cX10_layRing 7 (some .boolean) 2 := ⟨tb_t 1088 (by decide +kernel) (by decide +kernel), tb_s 42 (by decide +kernel) (by decide +kernel), it_Mo, tb_t 1089 (by decide +kernel) (by decide +kernel), ⟨by decide, by decide, by decide +kernel⟩⟩
theorem cm_Mo_findRing : CMV y_Mo_findRing cX10_findRing 4 none 0 := ⟨tb_t 1084 (by decide +kernel) (by decide +kernel), tb_s 41 (by decide +kernel) (by decide +kernel), it_Mo, tb_t 1085 (by decide +kernel) (by decide +kernel), ⟨by decide, by decide, by decide +kernel⟩⟩
theorem cm_Mo_ring : CMV y_Mo_ring cX10_ring 2 (some .int) 1 := ⟨tb_t 1079 (by decide +kernel) (by decide +kernel), tb_t 1080 (by decide +kernel) (by decide +kernel), it_Mo, tb_t 1081 (by decide +kernel) (by decide +kernel), ⟨by decide, by decide, by decide +kernel⟩⟩
theorem cm_Mo_leastOf : CMV y_Mo_leastOf cX10_leastOf 6 (some .int) 2 := ⟨tb_t 1096 (by decide +kernel) (by decide +kernel), tb_s 43 (by decide +kernel) (by decide +kernel), it_Mo, tb_t 1097 (by decide +kernel) (by decide +kernel), ⟨by decide, by decide, by decide +kernel⟩⟩
theorem cm_Mo_cancel : CMV y_Mo_cancel cX10_cancel 2 (some .int) 0 := ⟨tb_t 1091 (by decide +kernel) (by decide +kernel), tb_t 1092 (by decide +kernel) (by decide +kernel), it_Mo, tb_t 1093 (by decide +kernel) (by decide +kernel), ⟨by decide, by decide, by decide +kernel⟩⟩
theorem cm_Mo_netOf : CMV y_Mo_netOf cX10_netOf 4 (some .int) 1 := ⟨tb_t 1104 (by decide +kernel) (by decide +kernel), tb_s 44 (by decide +kernel) (by decide +kernel), it_Mo, tb_t 1105 (by decide +kernel) (by decide +kernel), ⟨by decide, by decide, by decide +kernel⟩⟩
theorem cm_Mo_net : CMV y_Mo_net cX10_net 2 (some .int) 1 := ⟨tb_t 1099 (by decide +kernel) (by decide +kernel), tb_t 1100 (by decide +kernel) (by decide +kernel), it_Mo, tb_t 1101 (by decide +kernel) (by decide +kernel), ⟨by decide, by decide, by decide +kernel⟩⟩
theorem cm_Mo_fewest : CMV y_Mo_fewest cX10_fewest 6 (some .int) 0 := ⟨tb_t 1107 (by decide +kernel) (by decide +kernel), tb_t 1108 (by decide +kernel) (by decide +kernel), it_Mo, tb_t 1109 (by decide +kernel) (by decide +kernel), ⟨by decide, by decide, by decide +kernel⟩⟩
theorem cm_Mo_need0 : CMV y_Mo_need0 cX10_need0 3 (some .int) 2 := ⟨tb_t 1128 (by decide +kernel) (by decide +kernel), tb_s 48 (by decide +kernel) (by decide +kernel), it_Mo, tb_t 1129 (by decide +kernel) (by decide +kernel), ⟨by decide, by decide, by decide +kernel⟩⟩
theorem cm_Mo_mayMeet : CMV y_Mo_mayMeet cX10_mayMeet 4 (some .boolean) 2 := ⟨tb_t 1124 (by decide +kernel) (by decide +kernel), tb_s 47 (by decide +kernel) (by decide +kernel), it_Mo, tb_t 1125 (by decide +kernel) (by decide +kernel), ⟨by decide, by decide, by decide +kernel⟩⟩
theorem cm_Mo_fits : CMV y_Mo_fits cX10_fits 7 (some .boolean) 1 := ⟨tb_t 1120 (by decide +kernel) (by decide +kernel), tb_s 46 (by decide +kernel) (by decide +kernel), it_Mo, tb_t 1121 (by decide +kernel) (by decide +kernel), ⟨by decide, by decide, by decide +kernel⟩⟩
theorem cm_Mo_look : CMV y_Mo_look cX10_look 4 none 0 := ⟨tb_t 1132 (by decide +kernel) (by decide +kernel), tb_s 49 (by decide +kernel) (by decide +kernel), it_Mo, tb_t 1133 (by decide +kernel) (by decide +kernel), ⟨by decide, by decide, by decide +kernel⟩⟩
theorem cm_Mo_findMet : CMV y_Mo_findMet cX10_findMet 3 none 0 := ⟨tb_t 1116 (by decide +kernel) (by decide +kernel), tb_s 45 (by decide +kernel) (by decide +kernel), it_Mo, tb_t 1117 (by decide +kernel) (by decide +kernel), ⟨by decide, by decide, by decide +kernel⟩⟩
theorem cm_Mo_met : CMV y_Mo_met cX10_met 2 (some .int) 1 := ⟨tb_t 1111 (by decide +kernel) (by decide +kernel), tb_t 1112 (by decide +kernel) (by decide +kernel), it_Mo, tb_t 1113 (by decide +kernel) (by decide +kernel), ⟨by decide, by decide, by decide +kernel⟩⟩
theorem cm_Mo_plan : CMV y_Mo_plan cX10_plan 2 (some .int) 1 := ⟨tb_t 1135 (by decide +kernel) (by decide +kernel), tb_t 1136 (by decide +kernel) (by decide +kernel), it_Mo, tb_t 1137 (by decide +kernel) (by decide +kernel), ⟨by decide, by decide, by decide +kernel⟩⟩
theorem cm_Mo_toDo : CMV y_Mo_toDo cX10_toDo 5 (some .int) 2 := ⟨tb_t 1144 (by decide +kernel) (by decide +kernel), tb_s 50 (by decide +kernel) (by decide +kernel), it_Mo, tb_t 1145 (by decide +kernel) (by decide +kernel), ⟨by decide, by decide, by decide +kernel⟩⟩
theorem cm_Mo_doneFor : CMV y_Mo_doneFor cX10_doneFor 6 (some .int) 3 := ⟨tb_t 1148 (by decide +kernel) (by decide +kernel), tb_s 51 (by decide +kernel) (by decide +kernel), it_Mo, tb_t 1149 (by decide +kernel) (by decide +kernel), ⟨by decide, by decide, by decide +kernel⟩⟩
theorem cm_Mo_fire : CMV y_Mo_fire cX10_fire 8 (some .int) 2 := ⟨tb_t 1139 (by decide +kernel) (by decide +kernel), tb_t 1140 (by decide +kernel) (by decide +kernel), it_Mo, tb_t 1141 (by decide +kernel) (by decide +kernel), ⟨by decide, by decide, by decide +kernel⟩⟩
theorem cm_Mo_ratesBy : CMV y_Mo_ratesBy cX10_ratesBy 4 (some .int) 1 := ⟨tb_t 1156 (by decide +kernel) (by decide +kernel), tb_s 52 (by decide +kernel) (by decide +kernel), it_Mo, tb_t 1157 (by decide +kernel) (by decide +kernel), ⟨by decide, by decide, by decide +kernel⟩⟩
theorem cm_Mo_hold : CMS y_Mo_hold cX10_hold 1 (some .int) 1 := ⟨tb_t 1159 (by decide +kernel) (by decide +kernel), it_Mo, tb_t 1160 (by decide +kernel) (by decide +kernel), ⟨by decide, by decide, by decide +kernel⟩⟩
theorem cm_Mo_rate : CMV y_Mo_rate cX10_rate 6 (some .int) 2 := ⟨tb_t 1151 (by decide +kernel) (by decide +kernel), tb_t 1152 (by decide +kernel) (by decide +kernel), it_Mo, tb_t 1153 (by decide +kernel) (by decide +kernel), ⟨by decide, by decide, by decide +kernel⟩⟩
theorem cm_Mo_set : CMV y_Mo_set cX10_set 4 (some .int) 2 := ⟨tb_t 1162 (by decide +kernel) (by decide +kernel), tb_t 1163 (by decide +kernel) (by decide +kernel), it_Mo, tb_t 1164 (by decide +kernel) (by decide +kernel), ⟨by decide, by decide, by decide +kernel⟩⟩
theorem cm_Mo_settles : CMV y_Mo_settles cX10_settles 5 (some .int) 0 := ⟨tb_t 1166 (by decide +kernel) (by decide +kernel), tb_t 1167 (by decide +kernel) (by decide +kernel), it_Mo, tb_t 1168 (by decide +kernel) (by decide +kernel), ⟨by decide, by decide, by decide +kernel⟩⟩
theorem cm_Mo_told : CMV y_Mo_told cX10_told 5 (some .int) 3 := ⟨tb_t 1170 (by decide +kernel) (by decide +kernel), tb_t 1171 (by decide +kernel) (by decide +kernel), it_Mo, tb_t 1172 (by decide +kernel) (by decide +kernel), ⟨by decide, by decide, by decide +kernel⟩⟩
theorem cm_Mo_forged : CMV y_Mo_forged cX10_forged 4 (some .int) 0 := ⟨tb_t 1174 (by decide +kernel) (by decide +kernel), tb_t 1175 (by decide +kernel) (by decide +kernel), it_Mo, tb_t 1176 (by decide +kernel) (by decide +kernel), ⟨by decide, by decide, by decide +kernel⟩⟩
theorem cm_Mo_forget : CMV y_Mo_forget cX10_forget 2 (some .int) 0 := ⟨tb_t 1178 (by decide +kernel) (by decide +kernel), tb_t 1179 (by decide +kernel) (by decide +kernel), it_Mo, tb_t 1180 (by decide +kernel) (by decide +kernel), ⟨by decide, by decide, by decide +kernel⟩⟩
theorem cm_Mo_goesOff : CMV y_Mo_goesOff cX10_goesOff 4 (some .int) 1 := ⟨tb_t 1182 (by decide +kernel) (by decide +kernel), tb_t 1183 (by decide +kernel) (by decide +kernel), it_Mo, tb_t 1184 (by decide +kernel) (by decide +kernel), ⟨by decide, by decide, by decide +kernel⟩⟩
theorem cm_Mo_kept : CMV y_Mo_kept cX10_kept 13 (some .int) 2 := ⟨tb_t 1186 (by decide +kernel) (by decide +kernel), tb_t 1187 (by decide +kernel) (by decide +kernel), it_Mo, tb_t 1188 (by decide +kernel) (by decide +kernel), ⟨by decide, by decide, by decide +kernel⟩⟩
theorem cm_Mo_type : CMV y_Mo_type cX10_type 5 (some .int) 2 := ⟨tb_t 1196 (by decide +kernel) (by decide +kernel), tb_t 1197 (by decide +kernel) (by decide +kernel), it_Mo, tb_t 1198 (by decide +kernel) (by decide +kernel), ⟨by decide, by decide, by decide +kernel⟩⟩
theorem cm_Mo_clear : CMV y_Mo_clear cX10_clear 2 (some .int) 0 := ⟨tb_t 1202 (by decide +kernel) (by decide +kernel), tb_t 1203 (by decide +kernel) (by decide +kernel), it_Mo, tb_t 1204 (by decide +kernel) (by decide +kernel), ⟨by decide, by decide, by decide +kernel⟩⟩
theorem cm_Mo_isSmall : CMS y_Mo_isSmall cX10_isSmall 1 (some .boolean) 1 := ⟨tb_t 1214 (by decide +kernel) (by decide +kernel), it_Mo, tb_t 1215 (by decide +kernel) (by decide +kernel), ⟨by decide, by decide, by decide +kernel⟩⟩
theorem cm_Mo_isFigure : CMS y_Mo_isFigure cX10_isFigure 1 (some .boolean) 1 := ⟨tb_t 1219 (by decide +kernel) (by decide +kernel), it_Mo, tb_t 1220 (by decide +kernel) (by decide +kernel), ⟨by decide, by decide, by decide +kernel⟩⟩
theorem cm_Mo_lookAt : CMV y_Mo_lookAt cX10_lookAt 5 none 1 := ⟨tb_t 1211 (by decide +kernel) (by decide +kernel), tb_s 54 (by decide +kernel) (by decide +kernel), it_Mo, tb_t 1212 (by decide +kernel) (by decide +kernel), ⟨by decide, by decide, by decide +kernel⟩⟩
theorem cm_Mo_goOn : CMV y_Mo_goOn cX10_goOn 1 none 0 := ⟨tb_t 1233 (by decide +kernel) (by decide +kernel), tb_s 57 (by decide +kernel) (by decide +kernel), it_Mo, tb_t 1234 (by decide +kernel) (by decide +kernel), ⟨by decide, by decide, by decide +kernel⟩⟩
theorem cm_Mo_isWord : CMV y_Mo_isWord cX10_isWord 10 (some .boolean) 6 := ⟨tb_t 1229 (by decide +kernel) (by decide +kernel), tb_s 56 (by decide +kernel) (by decide +kernel), it_Mo, tb_t 1230 (by decide +kernel) (by decide +kernel), ⟨by decide, by decide, by decide +kernel⟩⟩
theorem cm_Mo_takes : CMV y_Mo_takes cX10_takes 4 (some .boolean) 3 := ⟨tb_t 1237 (by decide +kernel) (by decide +kernel), tb_s 58 (by decide +kernel) (by decide +kernel), it_Mo, tb_t 1238 (by decide +kernel) (by decide +kernel), ⟨by decide, by decide, by decide +kernel⟩⟩
theorem cm_Mo_readsStrong : CMV y_Mo_readsStrong cX10_readsStrong 1 (some .boolean) 0 := ⟨tb_t 1241 (by decide +kernel) (by decide +kernel), tb_s 59 (by decide +kernel) (by decide +kernel), it_Mo, tb_t 1242 (by decide +kernel) (by decide +kernel), ⟨by decide, by decide, by decide +kernel⟩⟩
theorem cm_Mo_readsFavour : CMV y_Mo_readsFavour cX10_readsFavour 2 (some .boolean) 0 := ⟨tb_t 1245 (by decide +kernel) (by decide +kernel), tb_s 60 (by decide +kernel) (by decide +kernel), it_Mo, tb_t 1246 (by decide +kernel) (by decide +kernel), ⟨by decide, by decide, by decide +kernel⟩⟩
theorem cm_Mo_readsNeed : CMV y_Mo_readsNeed cX10_readsNeed 2 (some .boolean) 0 := ⟨tb_t 1249 (by decide +kernel) (by decide +kernel), tb_s 61 (by decide +kernel) (by decide +kernel), it_Mo, tb_t 1250 (by decide +kernel) (by decide +kernel), ⟨by decide, by decide, by decide +kernel⟩⟩
theorem cm_Mo_readsItem : CMV y_Mo_readsItem cX10_readsItem 3 (some .boolean) 1 := ⟨tb_t 1225 (by decide +kernel) (by decide +kernel), tb_s 55 (by decide +kernel) (by decide +kernel), it_Mo, tb_t 1226 (by decide +kernel) (by decide +kernel), ⟨by decide, by decide, by decide +kernel⟩⟩
theorem cm_Mo_read : CMV y_Mo_read cX10_read 3 (some .int) 0 := ⟨tb_t 1206 (by decide +kernel) (by decide +kernel), tb_t 1207 (by decide +kernel) (by decide +kernel), it_Mo, tb_t 1208 (by decide +kernel) (by decide +kernel), ⟨by decide, by decide, by decide +kernel⟩⟩
theorem cm_Mo_part : CMV y_Mo_part cX10_part 2 (some .long) 1 := ⟨tb_t 1254 (by decide +kernel) (by decide +kernel), tb_t 1255 (by decide +kernel) (by decide +kernel), it_Mo, tb_t 1256 (by decide +kernel) (by decide +kernel), ⟨by decide, by decide, by decide +kernel⟩⟩
theorem cm_Mo_image : CMV y_Mo_image cX10_image 3 (some .int) 1 := ⟨tb_t 1258 (by decide +kernel) (by decide +kernel), tb_t 1259 (by decide +kernel) (by decide +kernel), it_Mo, tb_t 1260 (by decide +kernel) (by decide +kernel), ⟨by decide, by decide, by decide +kernel⟩⟩
theorem cm_Mo_from : CMV y_Mo_from cX10_from 3 (some .int) 1 := ⟨tb_t 1262 (by decide +kernel) (by decide +kernel), tb_t 1263 (by decide +kernel) (by decide +kernel), it_Mo, tb_t 1264 (by decide +kernel) (by decide +kernel), ⟨by decide, by decide, by decide +kernel⟩⟩
theorem cm_Mo_status : CMV y_Mo_status cX10_status 2 (some .int) 1 := ⟨tb_t 1266 (by decide +kernel) (by decide +kernel), tb_t 1267 (by decide +kernel) (by decide +kernel), it_Mo, tb_t 1268 (by decide +kernel) (by decide +kernel), ⟨by decide, by decide, by decide +kernel⟩⟩
theorem cm_Mo_counted : CMV y_Mo_counted cX10_counted 2 (some .int) 1 := ⟨tb_t 1275 (by decide +kernel) (by decide +kernel), tb_s 62 (by decide +kernel) (by decide +kernel), it_Mo, tb_t 1276 (by decide +kernel) (by decide +kernel), ⟨by decide, by decide, by decide +kernel⟩⟩
theorem cm_Mo_count : CMV y_Mo_count cX10_count 2 (some .int) 1 := ⟨tb_t 1270 (by decide +kernel) (by decide +kernel), tb_t 1271 (by decide +kernel) (by decide +kernel), it_Mo, tb_t 1272 (by decide +kernel) (by decide +kernel), ⟨by decide, by decide, by decide +kernel⟩⟩
theorem cm_Mo_sums : CMV y_Mo_sums cX10_sums 8 (some .long) 3 := ⟨tb_t 1285 (by decide +kernel) (by decide +kernel), tb_s 63 (by decide +kernel) (by decide +kernel), it_Mo, tb_t 1286 (by decide +kernel) (by decide +kernel), ⟨by decide, by decide, by decide +kernel⟩⟩
theorem cm_Mo_digest : CMV y_Mo_digest cX10_digest 4 (some .long) 0 := ⟨tb_t 1278 (by decide +kernel) (by decide +kernel), tb_t 1279 (by decide +kernel) (by decide +kernel), it_Mo, tb_t 1280 (by decide +kernel) (by decide +kernel), ⟨by decide, by decide, by decide +kernel⟩⟩
theorem cm_JS_length_8abf5 : CMV y_JS_length_8abf5 cJ0_length_8abf5 1 (some .int) 0 := ⟨tb_t 448 (by decide +kernel) (by decide +kernel), tb_t 449 (by decide +kernel) (by decide +kernel), it_JS, tb_t 450 (by decide +kernel) (by decide +kernel), ⟨by decide, by decide, by decide +kernel⟩⟩
theorem cm_JS_charAt_5068e : CMV y_JS_charAt_5068e cJ0_charAt_5068e 2 (some .char) 1 := ⟨tb_t 458 (by decide +kernel) (by decide +kernel), tb_t 459 (by decide +kernel) (by decide +kernel), it_JS, tb_t 460 (by decide +kernel) (by decide +kernel), ⟨by decide, by decide, by decide +kernel⟩⟩
theorem cm_JS_coder_7d493 : CMV y_JS_coder_7d493 cJ0_coder_7d493 1 (some .byte) 0 := ⟨tb_t 452 (by decide +kernel) (by decide +kernel), tb_t 453 (by decide +kernel) (by decide +kernel), it_JS, tb_t 454 (by decide +kernel) (by decide +kernel), ⟨by decide, by decide, by decide +kernel⟩⟩
theorem cm_JS_isLatin1_aae02 : CMV y_JS_isLatin1_aae02 cJ0_isLatin1_aae02 1 (some .boolean) 0 := ⟨tb_t 462 (by decide +kernel) (by decide +kernel), tb_t 463 (by decide +kernel) (by decide +kernel), it_JS, tb_t 464 (by decide +kernel) (by decide +kernel), ⟨by decide, by decide, by decide +kernel⟩⟩
theorem cm_JS_checkIndex_df160 : CMS y_JS_checkIndex_df160 cJ0_checkIndex_df160 2 none 2 := ⟨tb_t 469 (by decide +kernel) (by decide +kernel), it_JS, tb_t 470 (by decide +kernel) (by decide +kernel), ⟨by decide, by decide, by decide +kernel⟩⟩
theorem cm_JL_charAt_3b067 : CMS y_JL_charAt_3b067 cJ1_charAt_3b067 2 (some .char) 2 := ⟨tb_t 466 (by decide +kernel) (by decide +kernel), it_JL, tb_t 467 (by decide +kernel) (by decide +kernel), ⟨by decide, by decide, by decide +kernel⟩⟩
theorem cm_JU_getChar_3b067 : CMS y_JU_getChar_3b067 cJ2_getChar_3b067 2 (some .char) 2 := ⟨tb_t 487 (by decide +kernel) (by decide +kernel), it_JU, tb_t 488 (by decide +kernel) (by decide +kernel), ⟨by decide, by decide, by decide +kernel⟩⟩
theorem cm_JU_length_9d52b : CMS y_JU_length_9d52b cJ2_length_9d52b 1 (some .int) 1 := ⟨tb_t 483 (by decide +kernel) (by decide +kernel), it_JU, tb_t 484 (by decide +kernel) (by decide +kernel), ⟨by decide, by decide, by decide +kernel⟩⟩
theorem cm_JU_charAt_3b067 : CMS y_JU_charAt_3b067 cJ2_charAt_3b067 2 (some .char) 2 := ⟨tb_t 477 (by decide +kernel) (by decide +kernel), it_JU, tb_t 478 (by decide +kernel) (by decide +kernel), ⟨by decide, by decide, by decide +kernel⟩⟩
theorem cm_JU_checkIndex_2214a : CMS y_JU_checkIndex_2214a cJ2_checkIndex_2214a 2 none 2 := ⟨tb_t 480 (by decide +kernel) (by decide +kernel), it_JU, tb_t 481 (by decide +kernel) (by decide +kernel), ⟨by decide, by decide, by decide +kernel⟩⟩
theorem cm_JP_checkIndex_8e157 : CMS y_JP_checkIndex_8e157 cJ3_checkIndex_8e157 3 (some .int) 3 := ⟨tb_t 474 (by decide +kernel) (by decide +kernel), it_JP, tb_t 475 (by decide +kernel) (by decide +kernel), ⟨by decide, by decide, by decide +kernel⟩⟩
theorem cm_max : Cond.static Lib.Math.max.name ∈ TB ∧ Cond.initialized "java/lang/Math" ∈ TB ∧ Cond.code Lib.Math.max.name Lib.Math.max.code 2 (some .int) ∈ TB := ⟨tb_t 45 (by decide +kernel) (by decide +kernel), it_JM, tb_t 46 (by decide +kernel) (by decide +kernel)⟩
theorem cm_min : Cond.static Lib.Math.min.name ∈ TB ∧ Cond.initialized "java/lang/Math" ∈ TB ∧ Cond.code Lib.Math.min.name Lib.Math.min.code 2 (some .int) ∈ TB := ⟨tb_t 544 (by decide +kernel) (by decide +kernel), it_JM, tb_t 545 (by decide +kernel) (by decide +kernel)⟩
theorem cm_obj : Cond.instanceMethod Lib.objectInit ∈ TB ∧ Cond.code Lib.objectInit ⟨#[0xb1]⟩ 1 none ∈ TB := ⟨tb_t 24 (by decide +kernel) (by decide +kernel), tb_t 25 (by decide +kernel) (by decide +kernel)⟩
theorem cm_copy : Cond.native arraycopyName ∈ TB ∧ Cond.static arraycopyName ∈ TB ∧ Cond.initialized "java/lang/System" ∈ TB := ⟨nat_copy, tb_t 547 (by decide +kernel) (by decide +kernel), it_JY⟩
end
