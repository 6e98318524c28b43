/-! ===== what stands at each place of the code ===== -/
theorem dX0_init_0 : decode cX0_init 0 = .ok (.aload_n 0, 1) := by decide +kernel
theorem dX0_init_1 : decode cX0_init 1 = .ok (.invokespecial 3, 3) := by decide +kernel
theorem dX0_init_4 : decode cX0_init 4 = .ok (.aload_n 0, 1) := by decide +kernel
theorem dX0_init_5 : decode cX0_init 5 = .ok (.bipush 6, 2) := by decide +kernel
theorem dX0_init_7 : decode cX0_init 7 = .ok (.newarray .int, 2) := by decide +kernel
theorem dX0_init_9 : decode cX0_init 9 = .ok (.putfield 9, 3) := by decide +kernel
theorem dX0_init_12 : decode cX0_init 12 = .ok (.return_, 1) := by decide +kernel
theorem dX0_find_0 : decode cX0_find 0 = .ok (.aload_n 0, 1) := by decide +kernel
theorem dX0_find_1 : decode cX0_find 1 = .ok (.iconst 0, 1) := by decide +kernel
theorem dX0_find_2 : decode cX0_find 2 = .ok (.putfield 15, 3) := by decide +kernel
theorem dX0_find_5 : decode cX0_find 5 = .ok (.iconst 2, 1) := by decide +kernel
theorem dX0_find_6 : decode cX0_find 6 = .ok (.istore_n 2, 1) := by decide +kernel
theorem dX0_find_7 : decode cX0_find 7 = .ok (.iload_n 2, 1) := by decide +kernel
theorem dX0_find_8 : decode cX0_find 8 = .ok (.aload_n 1, 1) := by decide +kernel
theorem dX0_find_9 : decode cX0_find 9 = .ok (.getfield 19, 3) := by decide +kernel
theorem dX0_find_12 : decode cX0_find 12 = .ok (.if_icmp .gt 48, 3) := by decide +kernel
theorem dX0_find_15 : decode cX0_find 15 = .ok (.iconst 0, 1) := by decide +kernel
theorem dX0_find_16 : decode cX0_find 16 = .ok (.istore_n 3, 1) := by decide +kernel
theorem dX0_find_17 : decode cX0_find 17 = .ok (.iload_n 3, 1) := by decide +kernel
theorem dX0_find_18 : decode cX0_find 18 = .ok (.aload_n 1, 1) := by decide +kernel
theorem dX0_find_19 : decode cX0_find 19 = .ok (.getfield 19, 3) := by decide +kernel
theorem dX0_find_22 : decode cX0_find 22 = .ok (.if_icmp .ge 32, 3) := by decide +kernel
theorem dX0_find_25 : decode cX0_find 25 = .ok (.aload_n 0, 1) := by decide +kernel
theorem dX0_find_26 : decode cX0_find 26 = .ok (.getfield 9, 3) := by decide +kernel
theorem dX0_find_29 : decode cX0_find 29 = .ok (.iconst 0, 1) := by decide +kernel
theorem dX0_find_30 : decode cX0_find 30 = .ok (.iload_n 3, 1) := by decide +kernel
theorem dX0_find_31 : decode cX0_find 31 = .ok (.iastore, 1) := by decide +kernel
theorem dX0_find_32 : decode cX0_find 32 = .ok (.aload_n 0, 1) := by decide +kernel
theorem dX0_find_33 : decode cX0_find 33 = .ok (.aload_n 1, 1) := by decide +kernel
theorem dX0_find_34 : decode cX0_find 34 = .ok (.iconst 1, 1) := by decide +kernel
theorem dX0_find_35 : decode cX0_find 35 = .ok (.iload_n 2, 1) := by decide +kernel
theorem dX0_find_36 : decode cX0_find 36 = .ok (.invokestatic 24, 3) := by decide +kernel
theorem dX0_find_39 : decode cX0_find 39 = .ok (.ifCond .eq 9, 3) := by decide +kernel
theorem dX0_find_42 : decode cX0_find 42 = .ok (.aload_n 0, 1) := by decide +kernel
theorem dX0_find_43 : decode cX0_find 43 = .ok (.iload_n 2, 1) := by decide +kernel
theorem dX0_find_44 : decode cX0_find 44 = .ok (.putfield 15, 3) := by decide +kernel
theorem dX0_find_47 : decode cX0_find 47 = .ok (.return_, 1) := by decide +kernel
theorem dX0_find_48 : decode cX0_find 48 = .ok (.iinc 3 1, 3) := by decide +kernel
theorem dX0_find_51 : decode cX0_find 51 = .ok (.goto (-34), 3) := by decide +kernel
theorem dX0_find_54 : decode cX0_find 54 = .ok (.iinc 2 1, 3) := by decide +kernel
theorem dX0_find_57 : decode cX0_find 57 = .ok (.goto (-50), 3) := by decide +kernel
theorem dX0_find_60 : decode cX0_find 60 = .ok (.return_, 1) := by decide +kernel
theorem dX0_member_0 : decode cX0_member 0 = .ok (.iload_n 1, 1) := by decide +kernel
theorem dX0_member_1 : decode cX0_member 1 = .ok (.ifCond .lt 21, 3) := by decide +kernel
theorem dX0_member_4 : decode cX0_member 4 = .ok (.iload_n 1, 1) := by decide +kernel
theorem dX0_member_5 : decode cX0_member 5 = .ok (.aload_n 0, 1) := by decide +kernel
theorem dX0_member_6 : decode cX0_member 6 = .ok (.getfield 9, 3) := by decide +kernel
theorem dX0_member_9 : decode cX0_member 9 = .ok (.arraylength, 1) := by decide +kernel
theorem dX0_member_10 : decode cX0_member 10 = .ok (.if_icmp .ge 12, 3) := by decide +kernel
theorem dX0_member_13 : decode cX0_member 13 = .ok (.aload_n 0, 1) := by decide +kernel
theorem dX0_member_14 : decode cX0_member 14 = .ok (.getfield 9, 3) := by decide +kernel
theorem dX0_member_17 : decode cX0_member 17 = .ok (.iload_n 1, 1) := by decide +kernel
theorem dX0_member_18 : decode cX0_member 18 = .ok (.iaload, 1) := by decide +kernel
theorem dX0_member_19 : decode cX0_member 19 = .ok (.goto 4, 3) := by decide +kernel
theorem dX0_member_22 : decode cX0_member 22 = .ok (.iconst (-1), 1) := by decide +kernel
theorem dX0_member_23 : decode cX0_member 23 = .ok (.ireturn, 1) := by decide +kernel
theorem dX0_closes_0 : decode cX0_closes 0 = .ok (.aload_n 0, 1) := by decide +kernel
theorem dX0_closes_1 : decode cX0_closes 1 = .ok (.iconst 0, 1) := by decide +kernel
theorem dX0_closes_2 : decode cX0_closes 2 = .ok (.invokevirtual 28, 3) := by decide +kernel
theorem dX0_closes_5 : decode cX0_closes 5 = .ok (.istore 4, 2) := by decide +kernel
theorem dX0_closes_7 : decode cX0_closes 7 = .ok (.aload_n 0, 1) := by decide +kernel
theorem dX0_closes_8 : decode cX0_closes 8 = .ok (.iload_n 2, 1) := by decide +kernel
theorem dX0_closes_9 : decode cX0_closes 9 = .ok (.iconst 1, 1) := by decide +kernel
theorem dX0_closes_10 : decode cX0_closes 10 = .ok (.isub, 1) := by decide +kernel
theorem dX0_closes_11 : decode cX0_closes 11 = .ok (.invokevirtual 28, 3) := by decide +kernel
theorem dX0_closes_14 : decode cX0_closes 14 = .ok (.istore 5, 2) := by decide +kernel
theorem dX0_closes_16 : decode cX0_closes 16 = .ok (.iload_n 2, 1) := by decide +kernel
theorem dX0_closes_17 : decode cX0_closes 17 = .ok (.iconst 1, 1) := by decide +kernel
theorem dX0_closes_18 : decode cX0_closes 18 = .ok (.if_icmp .lt 17, 3) := by decide +kernel
theorem dX0_closes_21 : decode cX0_closes 21 = .ok (.iload_n 2, 1) := by decide +kernel
theorem dX0_closes_22 : decode cX0_closes 22 = .ok (.iload_n 3, 1) := by decide +kernel
theorem dX0_closes_23 : decode cX0_closes 23 = .ok (.if_icmp .ge 12, 3) := by decide +kernel
theorem dX0_closes_26 : decode cX0_closes 26 = .ok (.iload_n 2, 1) := by decide +kernel
theorem dX0_closes_27 : decode cX0_closes 27 = .ok (.aload_n 0, 1) := by decide +kernel
theorem dX0_closes_28 : decode cX0_closes 28 = .ok (.getfield 9, 3) := by decide +kernel
theorem dX0_closes_31 : decode cX0_closes 31 = .ok (.arraylength, 1) := by decide +kernel
theorem dX0_closes_32 : decode cX0_closes 32 = .ok (.if_icmp .lt 20, 3) := by decide +kernel
theorem dX0_closes_35 : decode cX0_closes 35 = .ok (.aload_n 1, 1) := by decide +kernel
theorem dX0_closes_36 : decode cX0_closes 36 = .ok (.iload 5, 2) := by decide +kernel
theorem dX0_closes_38 : decode cX0_closes 38 = .ok (.iload 4, 2) := by decide +kernel
theorem dX0_closes_40 : decode cX0_closes 40 = .ok (.invokevirtual 32, 3) := by decide +kernel
theorem dX0_closes_43 : decode cX0_closes 43 = .ok (.ifCond .le 7, 3) := by decide +kernel
theorem dX0_closes_46 : decode cX0_closes 46 = .ok (.iconst 1, 1) := by decide +kernel
theorem dX0_closes_47 : decode cX0_closes 47 = .ok (.goto 4, 3) := by decide +kernel
theorem dX0_closes_50 : decode cX0_closes 50 = .ok (.iconst 0, 1) := by decide +kernel
theorem dX0_closes_51 : decode cX0_closes 51 = .ok (.ireturn, 1) := by decide +kernel
theorem dX0_closes_52 : decode cX0_closes 52 = .ok (.iload 4, 2) := by decide +kernel
theorem dX0_closes_54 : decode cX0_closes 54 = .ok (.iconst 1, 1) := by decide +kernel
theorem dX0_closes_55 : decode cX0_closes 55 = .ok (.iadd, 1) := by decide +kernel
theorem dX0_closes_56 : decode cX0_closes 56 = .ok (.istore 6, 2) := by decide +kernel
theorem dX0_closes_58 : decode cX0_closes 58 = .ok (.iload 6, 2) := by decide +kernel
theorem dX0_closes_60 : decode cX0_closes 60 = .ok (.aload_n 1, 1) := by decide +kernel
theorem dX0_closes_61 : decode cX0_closes 61 = .ok (.getfield 19, 3) := by decide +kernel
theorem dX0_closes_64 : decode cX0_closes 64 = .ok (.if_icmp .ge 52, 3) := by decide +kernel
theorem dX0_closes_67 : decode cX0_closes 67 = .ok (.aload_n 1, 1) := by decide +kernel
theorem dX0_closes_68 : decode cX0_closes 68 = .ok (.iload 5, 2) := by decide +kernel
theorem dX0_closes_70 : decode cX0_closes 70 = .ok (.iload 6, 2) := by decide +kernel
theorem dX0_closes_72 : decode cX0_closes 72 = .ok (.invokevirtual 32, 3) := by decide +kernel
theorem dX0_closes_75 : decode cX0_closes 75 = .ok (.ifCond .le 35, 3) := by decide +kernel
theorem dX0_closes_78 : decode cX0_closes 78 = .ok (.aload_n 0, 1) := by decide +kernel
theorem dX0_closes_79 : decode cX0_closes 79 = .ok (.iload 6, 2) := by decide +kernel
theorem dX0_closes_81 : decode cX0_closes 81 = .ok (.iload_n 2, 1) := by decide +kernel
theorem dX0_closes_82 : decode cX0_closes 82 = .ok (.invokevirtual 36, 3) := by decide +kernel
theorem dX0_closes_85 : decode cX0_closes 85 = .ok (.ifCond .ne 25, 3) := by decide +kernel
theorem dX0_closes_88 : decode cX0_closes 88 = .ok (.aload_n 0, 1) := by decide +kernel
theorem dX0_closes_89 : decode cX0_closes 89 = .ok (.getfield 9, 3) := by decide +kernel
theorem dX0_closes_92 : decode cX0_closes 92 = .ok (.iload_n 2, 1) := by decide +kernel
theorem dX0_closes_93 : decode cX0_closes 93 = .ok (.iload 6, 2) := by decide +kernel
theorem dX0_closes_95 : decode cX0_closes 95 = .ok (.iastore, 1) := by decide +kernel
theorem dX0_closes_96 : decode cX0_closes 96 = .ok (.aload_n 0, 1) := by decide +kernel
theorem dX0_closes_97 : decode cX0_closes 97 = .ok (.aload_n 1, 1) := by decide +kernel
theorem dX0_closes_98 : decode cX0_closes 98 = .ok (.iload_n 2, 1) := by decide +kernel
theorem dX0_closes_99 : decode cX0_closes 99 = .ok (.iconst 1, 1) := by decide +kernel
theorem dX0_closes_100 : decode cX0_closes 100 = .ok (.iadd, 1) := by decide +kernel
theorem dX0_closes_101 : decode cX0_closes 101 = .ok (.iload_n 3, 1) := by decide +kernel
theorem dX0_closes_102 : decode cX0_closes 102 = .ok (.invokestatic 24, 3) := by decide +kernel
theorem dX0_closes_105 : decode cX0_closes 105 = .ok (.ifCond .eq 5, 3) := by decide +kernel
theorem dX0_closes_108 : decode cX0_closes 108 = .ok (.iconst 1, 1) := by decide +kernel
theorem dX0_closes_109 : decode cX0_closes 109 = .ok (.ireturn, 1) := by decide +kernel
theorem dX0_closes_110 : decode cX0_closes 110 = .ok (.iinc 6 1, 3) := by decide +kernel
theorem dX0_closes_113 : decode cX0_closes 113 = .ok (.goto (-55), 3) := by decide +kernel
theorem dX0_closes_116 : decode cX0_closes 116 = .ok (.iconst 0, 1) := by decide +kernel
theorem dX0_closes_117 : decode cX0_closes 117 = .ok (.ireturn, 1) := by decide +kernel
theorem dX0_holds_0 : decode cX0_holds 0 = .ok (.iconst 0, 1) := by decide +kernel
theorem dX0_holds_1 : decode cX0_holds 1 = .ok (.istore_n 3, 1) := by decide +kernel
theorem dX0_holds_2 : decode cX0_holds 2 = .ok (.iload_n 3, 1) := by decide +kernel
theorem dX0_holds_3 : decode cX0_holds 3 = .ok (.iload_n 2, 1) := by decide +kernel
theorem dX0_holds_4 : decode cX0_holds 4 = .ok (.if_icmp .ge 20, 3) := by decide +kernel
theorem dX0_holds_7 : decode cX0_holds 7 = .ok (.aload_n 0, 1) := by decide +kernel
theorem dX0_holds_8 : decode cX0_holds 8 = .ok (.iload_n 3, 1) := by decide +kernel
theorem dX0_holds_9 : decode cX0_holds 9 = .ok (.invokevirtual 28, 3) := by decide +kernel
theorem dX0_holds_12 : decode cX0_holds 12 = .ok (.iload_n 1, 1) := by decide +kernel
theorem dX0_holds_13 : decode cX0_holds 13 = .ok (.if_icmp .ne 5, 3) := by decide +kernel
theorem dX0_holds_16 : decode cX0_holds 16 = .ok (.iconst 1, 1) := by decide +kernel
theorem dX0_holds_17 : decode cX0_holds 17 = .ok (.ireturn, 1) := by decide +kernel
theorem dX0_holds_18 : decode cX0_holds 18 = .ok (.iinc 3 1, 3) := by decide +kernel
theorem dX0_holds_21 : decode cX0_holds 21 = .ok (.goto (-19), 3) := by decide +kernel
theorem dX0_holds_24 : decode cX0_holds 24 = .ok (.iconst 0, 1) := by decide +kernel
theorem dX0_holds_25 : decode cX0_holds 25 = .ok (.ireturn, 1) := by decide +kernel
theorem dX1_init_0 : decode cX1_init 0 = .ok (.aload_n 0, 1) := by decide +kernel
theorem dX1_init_1 : decode cX1_init 1 = .ok (.invokespecial 3, 3) := by decide +kernel
theorem dX1_init_4 : decode cX1_init 4 = .ok (.aload_n 0, 1) := by decide +kernel
theorem dX1_init_5 : decode cX1_init 5 = .ok (.new 9, 3) := by decide +kernel
theorem dX1_init_8 : decode cX1_init 8 = .ok (.dup, 1) := by decide +kernel
theorem dX1_init_9 : decode cX1_init 9 = .ok (.bipush 6, 2) := by decide +kernel
theorem dX1_init_11 : decode cX1_init 11 = .ok (.bipush 6, 2) := by decide +kernel
theorem dX1_init_13 : decode cX1_init 13 = .ok (.invokespecial 11, 3) := by decide +kernel
theorem dX1_init_16 : decode cX1_init 16 = .ok (.putfield 14, 3) := by decide +kernel
theorem dX1_init_19 : decode cX1_init 19 = .ok (.aload_n 0, 1) := by decide +kernel
theorem dX1_init_20 : decode cX1_init 20 = .ok (.bipush 6, 2) := by decide +kernel
theorem dX1_init_22 : decode cX1_init 22 = .ok (.newarray .int, 2) := by decide +kernel
theorem dX1_init_24 : decode cX1_init 24 = .ok (.putfield 20, 3) := by decide +kernel
theorem dX1_init_27 : decode cX1_init 27 = .ok (.aload_n 0, 1) := by decide +kernel
theorem dX1_init_28 : decode cX1_init 28 = .ok (.bipush 64, 2) := by decide +kernel
theorem dX1_init_30 : decode cX1_init 30 = .ok (.newarray .int, 2) := by decide +kernel
theorem dX1_init_32 : decode cX1_init 32 = .ok (.putfield 24, 3) := by decide +kernel
theorem dX1_init_35 : decode cX1_init 35 = .ok (.return_, 1) := by decide +kernel
theorem dX1_addUp_0 : decode cX1_addUp 0 = .ok (.aload_n 0, 1) := by decide +kernel
theorem dX1_addUp_1 : decode cX1_addUp 1 = .ok (.bipush 6, 2) := by decide +kernel
theorem dX1_addUp_3 : decode cX1_addUp 3 = .ok (.aload_n 1, 1) := by decide +kernel
theorem dX1_addUp_4 : decode cX1_addUp 4 = .ok (.getfield 27, 3) := by decide +kernel
theorem dX1_addUp_7 : decode cX1_addUp 7 = .ok (.getfield 32, 3) := by decide +kernel
theorem dX1_addUp_10 : decode cX1_addUp 10 = .ok (.invokestatic 36, 3) := by decide +kernel
theorem dX1_addUp_13 : decode cX1_addUp 13 = .ok (.putfield 42, 3) := by decide +kernel
theorem dX1_addUp_16 : decode cX1_addUp 16 = .ok (.aload_n 0, 1) := by decide +kernel
theorem dX1_addUp_17 : decode cX1_addUp 17 = .ok (.getfield 14, 3) := by decide +kernel
theorem dX1_addUp_20 : decode cX1_addUp 20 = .ok (.aload_n 0, 1) := by decide +kernel
theorem dX1_addUp_21 : decode cX1_addUp 21 = .ok (.getfield 42, 3) := by decide +kernel
theorem dX1_addUp_24 : decode cX1_addUp 24 = .ok (.putfield 32, 3) := by decide +kernel
theorem dX1_addUp_27 : decode cX1_addUp 27 = .ok (.iconst 0, 1) := by decide +kernel
theorem dX1_addUp_28 : decode cX1_addUp 28 = .ok (.istore_n 3, 1) := by decide +kernel
theorem dX1_addUp_29 : decode cX1_addUp 29 = .ok (.iload_n 3, 1) := by decide +kernel
theorem dX1_addUp_30 : decode cX1_addUp 30 = .ok (.aload_n 0, 1) := by decide +kernel
theorem dX1_addUp_31 : decode cX1_addUp 31 = .ok (.getfield 42, 3) := by decide +kernel
theorem dX1_addUp_34 : decode cX1_addUp 34 = .ok (.if_icmp .ge 18, 3) := by decide +kernel
theorem dX1_addUp_37 : decode cX1_addUp 37 = .ok (.aload_n 0, 1) := by decide +kernel
theorem dX1_addUp_38 : decode cX1_addUp 38 = .ok (.getfield 14, 3) := by decide +kernel
theorem dX1_addUp_41 : decode cX1_addUp 41 = .ok (.iload_n 3, 1) := by decide +kernel
theorem dX1_addUp_42 : decode cX1_addUp 42 = .ok (.iconst 0, 1) := by decide +kernel
theorem dX1_addUp_43 : decode cX1_addUp 43 = .ok (.invokevirtual 44, 3) := by decide +kernel
theorem dX1_addUp_46 : decode cX1_addUp 46 = .ok (.iinc 3 1, 3) := by decide +kernel
theorem dX1_addUp_49 : decode cX1_addUp 49 = .ok (.goto (-20), 3) := by decide +kernel
theorem dX1_addUp_52 : decode cX1_addUp 52 = .ok (.iconst 0, 1) := by decide +kernel
theorem dX1_addUp_53 : decode cX1_addUp 53 = .ok (.istore_n 3, 1) := by decide +kernel
theorem dX1_addUp_54 : decode cX1_addUp 54 = .ok (.iload_n 3, 1) := by decide +kernel
theorem dX1_addUp_55 : decode cX1_addUp 55 = .ok (.aload_n 1, 1) := by decide +kernel
theorem dX1_addUp_56 : decode cX1_addUp 56 = .ok (.getfield 47, 3) := by decide +kernel
theorem dX1_addUp_59 : decode cX1_addUp 59 = .ok (.getfield 32, 3) := by decide +kernel
theorem dX1_addUp_62 : decode cX1_addUp 62 = .ok (.if_icmp .ge 40, 3) := by decide +kernel
theorem dX1_addUp_65 : decode cX1_addUp 65 = .ok (.aload_n 0, 1) := by decide +kernel
theorem dX1_addUp_66 : decode cX1_addUp 66 = .ok (.getfield 14, 3) := by decide +kernel
theorem dX1_addUp_69 : decode cX1_addUp 69 = .ok (.aload_n 1, 1) := by decide +kernel
theorem dX1_addUp_70 : decode cX1_addUp 70 = .ok (.getfield 47, 3) := by decide +kernel
theorem dX1_addUp_73 : decode cX1_addUp 73 = .ok (.iload_n 3, 1) := by decide +kernel
theorem dX1_addUp_74 : decode cX1_addUp 74 = .ok (.iconst 1, 1) := by decide +kernel
theorem dX1_addUp_75 : decode cX1_addUp 75 = .ok (.invokevirtual 50, 3) := by decide +kernel
theorem dX1_addUp_78 : decode cX1_addUp 78 = .ok (.aload_n 1, 1) := by decide +kernel
theorem dX1_addUp_79 : decode cX1_addUp 79 = .ok (.getfield 47, 3) := by decide +kernel
theorem dX1_addUp_82 : decode cX1_addUp 82 = .ok (.iload_n 3, 1) := by decide +kernel
theorem dX1_addUp_83 : decode cX1_addUp 83 = .ok (.iconst 2, 1) := by decide +kernel
theorem dX1_addUp_84 : decode cX1_addUp 84 = .ok (.invokevirtual 50, 3) := by decide +kernel
theorem dX1_addUp_87 : decode cX1_addUp 87 = .ok (.aload_n 1, 1) := by decide +kernel
theorem dX1_addUp_88 : decode cX1_addUp 88 = .ok (.iload_n 3, 1) := by decide +kernel
theorem dX1_addUp_89 : decode cX1_addUp 89 = .ok (.iload_n 2, 1) := by decide +kernel
theorem dX1_addUp_90 : decode cX1_addUp 90 = .ok (.invokevirtual 53, 3) := by decide +kernel
theorem dX1_addUp_93 : decode cX1_addUp 93 = .ok (.invokevirtual 56, 3) := by decide +kernel
theorem dX1_addUp_96 : decode cX1_addUp 96 = .ok (.iinc 3 1, 3) := by decide +kernel
theorem dX1_addUp_99 : decode cX1_addUp 99 = .ok (.goto (-45), 3) := by decide +kernel
theorem dX1_addUp_102 : decode cX1_addUp 102 = .ok (.return_, 1) := by decide +kernel
theorem dX1_between_0 : decode cX1_between 0 = .ok (.aload_n 0, 1) := by decide +kernel
theorem dX1_between_1 : decode cX1_between 1 = .ok (.getfield 14, 3) := by decide +kernel
theorem dX1_between_4 : decode cX1_between 4 = .ok (.iload_n 1, 1) := by decide +kernel
theorem dX1_between_5 : decode cX1_between 5 = .ok (.iload_n 2, 1) := by decide +kernel
theorem dX1_between_6 : decode cX1_between 6 = .ok (.invokevirtual 50, 3) := by decide +kernel
theorem dX1_between_9 : decode cX1_between 9 = .ok (.ireturn, 1) := by decide +kernel
theorem dX1_balance_0 : decode cX1_balance 0 = .ok (.aload_n 0, 1) := by decide +kernel
theorem dX1_balance_1 : decode cX1_balance 1 = .ok (.iload_n 1, 1) := by decide +kernel
theorem dX1_balance_2 : decode cX1_balance 2 = .ok (.iconst 0, 1) := by decide +kernel
theorem dX1_balance_3 : decode cX1_balance 3 = .ok (.invokevirtual 60, 3) := by decide +kernel
theorem dX1_balance_6 : decode cX1_balance 6 = .ok (.aload_n 0, 1) := by decide +kernel
theorem dX1_balance_7 : decode cX1_balance 7 = .ok (.iload_n 1, 1) := by decide +kernel
theorem dX1_balance_8 : decode cX1_balance 8 = .ok (.invokevirtual 63, 3) := by decide +kernel
theorem dX1_balance_11 : decode cX1_balance 11 = .ok (.isub, 1) := by decide +kernel
theorem dX1_balance_12 : decode cX1_balance 12 = .ok (.ireturn, 1) := by decide +kernel
theorem dX1_fewestPayments_0 : decode cX1_fewestPayments 0 = .ok (.iconst 0, 1) := by decide +kernel
theorem dX1_fewestPayments_1 : decode cX1_fewestPayments 1 = .ok (.istore_n 1, 1) := by decide +kernel
theorem dX1_fewestPayments_2 : decode cX1_fewestPayments 2 = .ok (.iload_n 1, 1) := by decide +kernel
theorem dX1_fewestPayments_3 : decode cX1_fewestPayments 3 = .ok (.aload_n 0, 1) := by decide +kernel
theorem dX1_fewestPayments_4 : decode cX1_fewestPayments 4 = .ok (.getfield 42, 3) := by decide +kernel
theorem dX1_fewestPayments_7 : decode cX1_fewestPayments 7 = .ok (.if_icmp .ge 20, 3) := by decide +kernel
theorem dX1_fewestPayments_10 : decode cX1_fewestPayments 10 = .ok (.aload_n 0, 1) := by decide +kernel
theorem dX1_fewestPayments_11 : decode cX1_fewestPayments 11 = .ok (.getfield 20, 3) := by decide +kernel
theorem dX1_fewestPayments_14 : decode cX1_fewestPayments 14 = .ok (.iload_n 1, 1) := by decide +kernel
theorem dX1_fewestPayments_15 : decode cX1_fewestPayments 15 = .ok (.aload_n 0, 1) := by decide +kernel
theorem dX1_fewestPayments_16 : decode cX1_fewestPayments 16 = .ok (.iload_n 1, 1) := by decide +kernel
theorem dX1_fewestPayments_17 : decode cX1_fewestPayments 17 = .ok (.invokevirtual 67, 3) := by decide +kernel
theorem dX1_fewestPayments_20 : decode cX1_fewestPayments 20 = .ok (.iastore, 1) := by decide +kernel
theorem dX1_fewestPayments_21 : decode cX1_fewestPayments 21 = .ok (.iinc 1 1, 3) := by decide +kernel
theorem dX1_fewestPayments_24 : decode cX1_fewestPayments 24 = .ok (.goto (-22), 3) := by decide +kernel
theorem dX1_fewestPayments_27 : decode cX1_fewestPayments 27 = .ok (.iconst 1, 1) := by decide +kernel
theorem dX1_fewestPayments_28 : decode cX1_fewestPayments 28 = .ok (.aload_n 0, 1) := by decide +kernel
theorem dX1_fewestPayments_29 : decode cX1_fewestPayments 29 = .ok (.getfield 42, 3) := by decide +kernel
theorem dX1_fewestPayments_32 : decode cX1_fewestPayments 32 = .ok (.ishl, 1) := by decide +kernel
theorem dX1_fewestPayments_33 : decode cX1_fewestPayments 33 = .ok (.aload_n 0, 1) := by decide +kernel
theorem dX1_fewestPayments_34 : decode cX1_fewestPayments 34 = .ok (.getfield 24, 3) := by decide +kernel
theorem dX1_fewestPayments_37 : decode cX1_fewestPayments 37 = .ok (.arraylength, 1) := by decide +kernel
theorem dX1_fewestPayments_38 : decode cX1_fewestPayments 38 = .ok (.invokestatic 36, 3) := by decide +kernel
theorem dX1_fewestPayments_41 : decode cX1_fewestPayments 41 = .ok (.istore_n 1, 1) := by decide +kernel
theorem dX1_fewestPayments_42 : decode cX1_fewestPayments 42 = .ok (.iconst 1, 1) := by decide +kernel
theorem dX1_fewestPayments_43 : decode cX1_fewestPayments 43 = .ok (.istore_n 2, 1) := by decide +kernel
theorem dX1_fewestPayments_44 : decode cX1_fewestPayments 44 = .ok (.iload_n 2, 1) := by decide +kernel
theorem dX1_fewestPayments_45 : decode cX1_fewestPayments 45 = .ok (.iload_n 1, 1) := by decide +kernel
theorem dX1_fewestPayments_46 : decode cX1_fewestPayments 46 = .ok (.if_icmp .ge 20, 3) := by decide +kernel
theorem dX1_fewestPayments_49 : decode cX1_fewestPayments 49 = .ok (.aload_n 0, 1) := by decide +kernel
theorem dX1_fewestPayments_50 : decode cX1_fewestPayments 50 = .ok (.getfield 24, 3) := by decide +kernel
theorem dX1_fewestPayments_53 : decode cX1_fewestPayments 53 = .ok (.iload_n 2, 1) := by decide +kernel
theorem dX1_fewestPayments_54 : decode cX1_fewestPayments 54 = .ok (.aload_n 0, 1) := by decide +kernel
theorem dX1_fewestPayments_55 : decode cX1_fewestPayments 55 = .ok (.iload_n 2, 1) := by decide +kernel
theorem dX1_fewestPayments_56 : decode cX1_fewestPayments 56 = .ok (.invokevirtual 70, 3) := by decide +kernel
theorem dX1_fewestPayments_59 : decode cX1_fewestPayments 59 = .ok (.iastore, 1) := by decide +kernel
theorem dX1_fewestPayments_60 : decode cX1_fewestPayments 60 = .ok (.iinc 2 1, 3) := by decide +kernel
theorem dX1_fewestPayments_63 : decode cX1_fewestPayments 63 = .ok (.goto (-19), 3) := by decide +kernel
theorem dX1_fewestPayments_66 : decode cX1_fewestPayments 66 = .ok (.aload_n 0, 1) := by decide +kernel
theorem dX1_fewestPayments_67 : decode cX1_fewestPayments 67 = .ok (.getfield 42, 3) := by decide +kernel
theorem dX1_fewestPayments_70 : decode cX1_fewestPayments 70 = .ok (.aload_n 0, 1) := by decide +kernel
theorem dX1_fewestPayments_71 : decode cX1_fewestPayments 71 = .ok (.getfield 24, 3) := by decide +kernel
theorem dX1_fewestPayments_74 : decode cX1_fewestPayments 74 = .ok (.iload_n 1, 1) := by decide +kernel
theorem dX1_fewestPayments_75 : decode cX1_fewestPayments 75 = .ok (.iconst 1, 1) := by decide +kernel
theorem dX1_fewestPayments_76 : decode cX1_fewestPayments 76 = .ok (.isub, 1) := by decide +kernel
theorem dX1_fewestPayments_77 : decode cX1_fewestPayments 77 = .ok (.iaload, 1) := by decide +kernel
theorem dX1_fewestPayments_78 : decode cX1_fewestPayments 78 = .ok (.isub, 1) := by decide +kernel
theorem dX1_fewestPayments_79 : decode cX1_fewestPayments 79 = .ok (.ireturn, 1) := by decide +kernel
theorem dX1_mostGroups_0 : decode cX1_mostGroups 0 = .ok (.iconst 0, 1) := by decide +kernel
theorem dX1_mostGroups_1 : decode cX1_mostGroups 1 = .ok (.istore_n 2, 1) := by decide +kernel
theorem dX1_mostGroups_2 : decode cX1_mostGroups 2 = .ok (.iconst 0, 1) := by decide +kernel
theorem dX1_mostGroups_3 : decode cX1_mostGroups 3 = .ok (.istore_n 3, 1) := by decide +kernel
theorem dX1_mostGroups_4 : decode cX1_mostGroups 4 = .ok (.iconst 0, 1) := by decide +kernel
theorem dX1_mostGroups_5 : decode cX1_mostGroups 5 = .ok (.istore 4, 2) := by decide +kernel
theorem dX1_mostGroups_7 : decode cX1_mostGroups 7 = .ok (.iload 4, 2) := by decide +kernel
theorem dX1_mostGroups_9 : decode cX1_mostGroups 9 = .ok (.aload_n 0, 1) := by decide +kernel
theorem dX1_mostGroups_10 : decode cX1_mostGroups 10 = .ok (.getfield 42, 3) := by decide +kernel
theorem dX1_mostGroups_13 : decode cX1_mostGroups 13 = .ok (.if_icmp .ge 47, 3) := by decide +kernel
theorem dX1_mostGroups_16 : decode cX1_mostGroups 16 = .ok (.iload_n 1, 1) := by decide +kernel
theorem dX1_mostGroups_17 : decode cX1_mostGroups 17 = .ok (.iconst 1, 1) := by decide +kernel
theorem dX1_mostGroups_18 : decode cX1_mostGroups 18 = .ok (.iload 4, 2) := by decide +kernel
theorem dX1_mostGroups_20 : decode cX1_mostGroups 20 = .ok (.ishl, 1) := by decide +kernel
theorem dX1_mostGroups_21 : decode cX1_mostGroups 21 = .ok (.iconst (-1), 1) := by decide +kernel
theorem dX1_mostGroups_22 : decode cX1_mostGroups 22 = .ok (.ixor, 1) := by decide +kernel
theorem dX1_mostGroups_23 : decode cX1_mostGroups 23 = .ok (.iand, 1) := by decide +kernel
theorem dX1_mostGroups_24 : decode cX1_mostGroups 24 = .ok (.istore 5, 2) := by decide +kernel
theorem dX1_mostGroups_26 : decode cX1_mostGroups 26 = .ok (.iload 5, 2) := by decide +kernel
theorem dX1_mostGroups_28 : decode cX1_mostGroups 28 = .ok (.iload_n 1, 1) := by decide +kernel
theorem dX1_mostGroups_29 : decode cX1_mostGroups 29 = .ok (.if_icmp .ge 25, 3) := by decide +kernel
theorem dX1_mostGroups_32 : decode cX1_mostGroups 32 = .ok (.iload_n 2, 1) := by decide +kernel
theorem dX1_mostGroups_33 : decode cX1_mostGroups 33 = .ok (.aload_n 0, 1) := by decide +kernel
theorem dX1_mostGroups_34 : decode cX1_mostGroups 34 = .ok (.getfield 24, 3) := by decide +kernel
theorem dX1_mostGroups_37 : decode cX1_mostGroups 37 = .ok (.iload 5, 2) := by decide +kernel
theorem dX1_mostGroups_39 : decode cX1_mostGroups 39 = .ok (.iaload, 1) := by decide +kernel
theorem dX1_mostGroups_40 : decode cX1_mostGroups 40 = .ok (.invokestatic 73, 3) := by decide +kernel
theorem dX1_mostGroups_43 : decode cX1_mostGroups 43 = .ok (.istore_n 2, 1) := by decide +kernel
theorem dX1_mostGroups_44 : decode cX1_mostGroups 44 = .ok (.iload_n 3, 1) := by decide +kernel
theorem dX1_mostGroups_45 : decode cX1_mostGroups 45 = .ok (.aload_n 0, 1) := by decide +kernel
theorem dX1_mostGroups_46 : decode cX1_mostGroups 46 = .ok (.getfield 20, 3) := by decide +kernel
theorem dX1_mostGroups_49 : decode cX1_mostGroups 49 = .ok (.iload 4, 2) := by decide +kernel
theorem dX1_mostGroups_51 : decode cX1_mostGroups 51 = .ok (.iaload, 1) := by decide +kernel
theorem dX1_mostGroups_52 : decode cX1_mostGroups 52 = .ok (.iadd, 1) := by decide +kernel
theorem dX1_mostGroups_53 : decode cX1_mostGroups 53 = .ok (.istore_n 3, 1) := by decide +kernel
theorem dX1_mostGroups_54 : decode cX1_mostGroups 54 = .ok (.iinc 4 1, 3) := by decide +kernel
theorem dX1_mostGroups_57 : decode cX1_mostGroups 57 = .ok (.goto (-50), 3) := by decide +kernel
theorem dX1_mostGroups_60 : decode cX1_mostGroups 60 = .ok (.iload_n 3, 1) := by decide +kernel
theorem dX1_mostGroups_61 : decode cX1_mostGroups 61 = .ok (.ifCond .ne 9, 3) := by decide +kernel
theorem dX1_mostGroups_64 : decode cX1_mostGroups 64 = .ok (.iload_n 2, 1) := by decide +kernel
theorem dX1_mostGroups_65 : decode cX1_mostGroups 65 = .ok (.iconst 1, 1) := by decide +kernel
theorem dX1_mostGroups_66 : decode cX1_mostGroups 66 = .ok (.iadd, 1) := by decide +kernel
theorem dX1_mostGroups_67 : decode cX1_mostGroups 67 = .ok (.goto 4, 3) := by decide +kernel
theorem dX1_mostGroups_70 : decode cX1_mostGroups 70 = .ok (.iload_n 2, 1) := by decide +kernel
theorem dX1_mostGroups_71 : decode cX1_mostGroups 71 = .ok (.ireturn, 1) := by decide +kernel
theorem dX1_callAllIn_0 : decode cX1_callAllIn 0 = .ok (.aload_n 0, 1) := by decide +kernel
theorem dX1_callAllIn_1 : decode cX1_callAllIn 1 = .ok (.iconst 0, 1) := by decide +kernel
theorem dX1_callAllIn_2 : decode cX1_callAllIn 2 = .ok (.putfield 76, 3) := by decide +kernel
theorem dX1_callAllIn_5 : decode cX1_callAllIn 5 = .ok (.aload_n 0, 1) := by decide +kernel
theorem dX1_callAllIn_6 : decode cX1_callAllIn 6 = .ok (.iconst 0, 1) := by decide +kernel
theorem dX1_callAllIn_7 : decode cX1_callAllIn 7 = .ok (.putfield 79, 3) := by decide +kernel
theorem dX1_callAllIn_10 : decode cX1_callAllIn 10 = .ok (.iconst 0, 1) := by decide +kernel
theorem dX1_callAllIn_11 : decode cX1_callAllIn 11 = .ok (.istore_n 2, 1) := by decide +kernel
theorem dX1_callAllIn_12 : decode cX1_callAllIn 12 = .ok (.iload_n 2, 1) := by decide +kernel
theorem dX1_callAllIn_13 : decode cX1_callAllIn 13 = .ok (.aload_n 0, 1) := by decide +kernel
theorem dX1_callAllIn_14 : decode cX1_callAllIn 14 = .ok (.getfield 42, 3) := by decide +kernel
theorem dX1_callAllIn_17 : decode cX1_callAllIn 17 = .ok (.if_icmp .ge 114, 3) := by decide +kernel
theorem dX1_callAllIn_20 : decode cX1_callAllIn 20 = .ok (.iconst 0, 1) := by decide +kernel
theorem dX1_callAllIn_21 : decode cX1_callAllIn 21 = .ok (.istore_n 3, 1) := by decide +kernel
theorem dX1_callAllIn_22 : decode cX1_callAllIn 22 = .ok (.iconst 0, 1) := by decide +kernel
theorem dX1_callAllIn_23 : decode cX1_callAllIn 23 = .ok (.istore 4, 2) := by decide +kernel
theorem dX1_callAllIn_25 : decode cX1_callAllIn 25 = .ok (.iload 4, 2) := by decide +kernel
theorem dX1_callAllIn_27 : decode cX1_callAllIn 27 = .ok (.aload_n 0, 1) := by decide +kernel
theorem dX1_callAllIn_28 : decode cX1_callAllIn 28 = .ok (.getfield 42, 3) := by decide +kernel
theorem dX1_callAllIn_31 : decode cX1_callAllIn 31 = .ok (.if_icmp .ge 69, 3) := by decide +kernel
theorem dX1_callAllIn_34 : decode cX1_callAllIn 34 = .ok (.iconst 1, 1) := by decide +kernel
theorem dX1_callAllIn_35 : decode cX1_callAllIn 35 = .ok (.iload 4, 2) := by decide +kernel
theorem dX1_callAllIn_37 : decode cX1_callAllIn 37 = .ok (.ishl, 1) := by decide +kernel
theorem dX1_callAllIn_38 : decode cX1_callAllIn 38 = .ok (.istore 5, 2) := by decide +kernel
theorem dX1_callAllIn_40 : decode cX1_callAllIn 40 = .ok (.aload_n 0, 1) := by decide +kernel
theorem dX1_callAllIn_41 : decode cX1_callAllIn 41 = .ok (.getfield 76, 3) := by decide +kernel
theorem dX1_callAllIn_44 : decode cX1_callAllIn 44 = .ok (.iload 5, 2) := by decide +kernel
theorem dX1_callAllIn_46 : decode cX1_callAllIn 46 = .ok (.iand, 1) := by decide +kernel
theorem dX1_callAllIn_47 : decode cX1_callAllIn 47 = .ok (.ifCond .ne 7, 3) := by decide +kernel
theorem dX1_callAllIn_50 : decode cX1_callAllIn 50 = .ok (.iconst 1, 1) := by decide +kernel
theorem dX1_callAllIn_51 : decode cX1_callAllIn 51 = .ok (.goto 4, 3) := by decide +kernel
theorem dX1_callAllIn_54 : decode cX1_callAllIn 54 = .ok (.iconst 0, 1) := by decide +kernel
theorem dX1_callAllIn_55 : decode cX1_callAllIn 55 = .ok (.istore 6, 2) := by decide +kernel
theorem dX1_callAllIn_57 : decode cX1_callAllIn 57 = .ok (.iload 6, 2) := by decide +kernel
theorem dX1_callAllIn_59 : decode cX1_callAllIn 59 = .ok (.ifCond .eq 35, 3) := by decide +kernel
theorem dX1_callAllIn_62 : decode cX1_callAllIn 62 = .ok (.aload_n 0, 1) := by decide +kernel
theorem dX1_callAllIn_63 : decode cX1_callAllIn 63 = .ok (.iload 4, 2) := by decide +kernel
theorem dX1_callAllIn_65 : decode cX1_callAllIn 65 = .ok (.invokevirtual 63, 3) := by decide +kernel
theorem dX1_callAllIn_68 : decode cX1_callAllIn 68 = .ok (.aload_n 1, 1) := by decide +kernel
theorem dX1_callAllIn_69 : decode cX1_callAllIn 69 = .ok (.iload 4, 2) := by decide +kernel
theorem dX1_callAllIn_71 : decode cX1_callAllIn 71 = .ok (.iconst 0, 1) := by decide +kernel
theorem dX1_callAllIn_72 : decode cX1_callAllIn 72 = .ok (.invokevirtual 50, 3) := by decide +kernel
theorem dX1_callAllIn_75 : decode cX1_callAllIn 75 = .ok (.aload_n 0, 1) := by decide +kernel
theorem dX1_callAllIn_76 : decode cX1_callAllIn 76 = .ok (.iload 4, 2) := by decide +kernel
theorem dX1_callAllIn_78 : decode cX1_callAllIn 78 = .ok (.aload_n 0, 1) := by decide +kernel
theorem dX1_callAllIn_79 : decode cX1_callAllIn 79 = .ok (.getfield 76, 3) := by decide +kernel
theorem dX1_callAllIn_82 : decode cX1_callAllIn 82 = .ok (.invokevirtual 60, 3) := by decide +kernel
theorem dX1_callAllIn_85 : decode cX1_callAllIn 85 = .ok (.iadd, 1) := by decide +kernel
theorem dX1_callAllIn_86 : decode cX1_callAllIn 86 = .ok (.if_icmp .le 8, 3) := by decide +kernel
theorem dX1_callAllIn_89 : decode cX1_callAllIn 89 = .ok (.iload_n 3, 1) := by decide +kernel
theorem dX1_callAllIn_90 : decode cX1_callAllIn 90 = .ok (.iload 5, 2) := by decide +kernel
theorem dX1_callAllIn_92 : decode cX1_callAllIn 92 = .ok (.ior, 1) := by decide +kernel
theorem dX1_callAllIn_93 : decode cX1_callAllIn 93 = .ok (.istore_n 3, 1) := by decide +kernel
theorem dX1_callAllIn_94 : decode cX1_callAllIn 94 = .ok (.iinc 4 1, 3) := by decide +kernel
theorem dX1_callAllIn_97 : decode cX1_callAllIn 97 = .ok (.goto (-72), 3) := by decide +kernel
theorem dX1_callAllIn_100 : decode cX1_callAllIn 100 = .ok (.iload_n 3, 1) := by decide +kernel
theorem dX1_callAllIn_101 : decode cX1_callAllIn 101 = .ok (.ifCond .ne 4, 3) := by decide +kernel
theorem dX1_callAllIn_104 : decode cX1_callAllIn 104 = .ok (.return_, 1) := by decide +kernel
theorem dX1_callAllIn_105 : decode cX1_callAllIn 105 = .ok (.aload_n 0, 1) := by decide +kernel
theorem dX1_callAllIn_106 : decode cX1_callAllIn 106 = .ok (.dup, 1) := by decide +kernel
theorem dX1_callAllIn_107 : decode cX1_callAllIn 107 = .ok (.getfield 76, 3) := by decide +kernel
theorem dX1_callAllIn_110 : decode cX1_callAllIn 110 = .ok (.iload_n 3, 1) := by decide +kernel
theorem dX1_callAllIn_111 : decode cX1_callAllIn 111 = .ok (.ior, 1) := by decide +kernel
theorem dX1_callAllIn_112 : decode cX1_callAllIn 112 = .ok (.putfield 76, 3) := by decide +kernel
theorem dX1_callAllIn_115 : decode cX1_callAllIn 115 = .ok (.aload_n 0, 1) := by decide +kernel
theorem dX1_callAllIn_116 : decode cX1_callAllIn 116 = .ok (.dup, 1) := by decide +kernel
theorem dX1_callAllIn_117 : decode cX1_callAllIn 117 = .ok (.getfield 79, 3) := by decide +kernel
theorem dX1_callAllIn_120 : decode cX1_callAllIn 120 = .ok (.iconst 1, 1) := by decide +kernel
theorem dX1_callAllIn_121 : decode cX1_callAllIn 121 = .ok (.iadd, 1) := by decide +kernel
theorem dX1_callAllIn_122 : decode cX1_callAllIn 122 = .ok (.putfield 79, 3) := by decide +kernel
theorem dX1_callAllIn_125 : decode cX1_callAllIn 125 = .ok (.iinc 2 1, 3) := by decide +kernel
theorem dX1_callAllIn_128 : decode cX1_callAllIn 128 = .ok (.goto (-116), 3) := by decide +kernel
theorem dX1_callAllIn_131 : decode cX1_callAllIn 131 = .ok (.return_, 1) := by decide +kernel
theorem dX1_dueFrom_0 : decode cX1_dueFrom 0 = .ok (.iconst 0, 1) := by decide +kernel
theorem dX1_dueFrom_1 : decode cX1_dueFrom 1 = .ok (.istore_n 2, 1) := by decide +kernel
theorem dX1_dueFrom_2 : decode cX1_dueFrom 2 = .ok (.iconst 0, 1) := by decide +kernel
theorem dX1_dueFrom_3 : decode cX1_dueFrom 3 = .ok (.istore_n 3, 1) := by decide +kernel
theorem dX1_dueFrom_4 : decode cX1_dueFrom 4 = .ok (.iload_n 3, 1) := by decide +kernel
theorem dX1_dueFrom_5 : decode cX1_dueFrom 5 = .ok (.aload_n 0, 1) := by decide +kernel
theorem dX1_dueFrom_6 : decode cX1_dueFrom 6 = .ok (.getfield 42, 3) := by decide +kernel
theorem dX1_dueFrom_9 : decode cX1_dueFrom 9 = .ok (.if_icmp .ge 18, 3) := by decide +kernel
theorem dX1_dueFrom_12 : decode cX1_dueFrom 12 = .ok (.iload_n 2, 1) := by decide +kernel
theorem dX1_dueFrom_13 : decode cX1_dueFrom 13 = .ok (.aload_n 0, 1) := by decide +kernel
theorem dX1_dueFrom_14 : decode cX1_dueFrom 14 = .ok (.iload_n 1, 1) := by decide +kernel
theorem dX1_dueFrom_15 : decode cX1_dueFrom 15 = .ok (.iload_n 3, 1) := by decide +kernel
theorem dX1_dueFrom_16 : decode cX1_dueFrom 16 = .ok (.invokevirtual 82, 3) := by decide +kernel
theorem dX1_dueFrom_19 : decode cX1_dueFrom 19 = .ok (.iadd, 1) := by decide +kernel
theorem dX1_dueFrom_20 : decode cX1_dueFrom 20 = .ok (.istore_n 2, 1) := by decide +kernel
theorem dX1_dueFrom_21 : decode cX1_dueFrom 21 = .ok (.iinc 3 1, 3) := by decide +kernel
theorem dX1_dueFrom_24 : decode cX1_dueFrom 24 = .ok (.goto (-20), 3) := by decide +kernel
theorem dX1_dueFrom_27 : decode cX1_dueFrom 27 = .ok (.iload_n 2, 1) := by decide +kernel
theorem dX1_dueFrom_28 : decode cX1_dueFrom 28 = .ok (.ireturn, 1) := by decide +kernel
theorem dX1_doneFor_0 : decode cX1_doneFor 0 = .ok (.iconst 0, 1) := by decide +kernel
theorem dX1_doneFor_1 : decode cX1_doneFor 1 = .ok (.istore_n 3, 1) := by decide +kernel
theorem dX1_doneFor_2 : decode cX1_doneFor 2 = .ok (.iconst 0, 1) := by decide +kernel
theorem dX1_doneFor_3 : decode cX1_doneFor 3 = .ok (.istore 4, 2) := by decide +kernel
theorem dX1_doneFor_5 : decode cX1_doneFor 5 = .ok (.iload 4, 2) := by decide +kernel
theorem dX1_doneFor_7 : decode cX1_doneFor 7 = .ok (.aload_n 0, 1) := by decide +kernel
theorem dX1_doneFor_8 : decode cX1_doneFor 8 = .ok (.getfield 42, 3) := by decide +kernel
theorem dX1_doneFor_11 : decode cX1_doneFor 11 = .ok (.if_icmp .ge 28, 3) := by decide +kernel
theorem dX1_doneFor_14 : decode cX1_doneFor 14 = .ok (.iload_n 2, 1) := by decide +kernel
theorem dX1_doneFor_15 : decode cX1_doneFor 15 = .ok (.iconst 1, 1) := by decide +kernel
theorem dX1_doneFor_16 : decode cX1_doneFor 16 = .ok (.iload 4, 2) := by decide +kernel
theorem dX1_doneFor_18 : decode cX1_doneFor 18 = .ok (.ishl, 1) := by decide +kernel
theorem dX1_doneFor_19 : decode cX1_doneFor 19 = .ok (.iand, 1) := by decide +kernel
theorem dX1_doneFor_20 : decode cX1_doneFor 20 = .ok (.ifCond .ne 13, 3) := by decide +kernel
theorem dX1_doneFor_23 : decode cX1_doneFor 23 = .ok (.iload_n 3, 1) := by decide +kernel
theorem dX1_doneFor_24 : decode cX1_doneFor 24 = .ok (.aload_n 0, 1) := by decide +kernel
theorem dX1_doneFor_25 : decode cX1_doneFor 25 = .ok (.iload 4, 2) := by decide +kernel
theorem dX1_doneFor_27 : decode cX1_doneFor 27 = .ok (.iload_n 1, 1) := by decide +kernel
theorem dX1_doneFor_28 : decode cX1_doneFor 28 = .ok (.invokevirtual 82, 3) := by decide +kernel
theorem dX1_doneFor_31 : decode cX1_doneFor 31 = .ok (.iadd, 1) := by decide +kernel
theorem dX1_doneFor_32 : decode cX1_doneFor 32 = .ok (.istore_n 3, 1) := by decide +kernel
theorem dX1_doneFor_33 : decode cX1_doneFor 33 = .ok (.iinc 4 1, 3) := by decide +kernel
theorem dX1_doneFor_36 : decode cX1_doneFor 36 = .ok (.goto (-31), 3) := by decide +kernel
theorem dX1_doneFor_39 : decode cX1_doneFor 39 = .ok (.iload_n 3, 1) := by decide +kernel
theorem dX1_doneFor_40 : decode cX1_doneFor 40 = .ok (.ireturn, 1) := by decide +kernel
theorem dX2_init_0 : decode cX2_init 0 = .ok (.aload_n 0, 1) := by decide +kernel
theorem dX2_init_1 : decode cX2_init 1 = .ok (.invokespecial 1, 3) := by decide +kernel
theorem dX2_init_4 : decode cX2_init 4 = .ok (.aload_n 0, 1) := by decide +kernel
theorem dX2_init_5 : decode cX2_init 5 = .ok (.lconst 1, 1) := by decide +kernel
theorem dX2_init_6 : decode cX2_init 6 = .ok (.putfield 7, 3) := by decide +kernel
theorem dX2_init_9 : decode cX2_init 9 = .ok (.return_, 1) := by decide +kernel
theorem dX2_become_0 : decode cX2_become 0 = .ok (.lload_n 1, 1) := by decide +kernel
theorem dX2_become_1 : decode cX2_become 1 = .ok (.lload_n 3, 1) := by decide +kernel
theorem dX2_become_2 : decode cX2_become 2 = .ok (.invokestatic 13, 3) := by decide +kernel
theorem dX2_become_5 : decode cX2_become 5 = .ok (.lstore 5, 2) := by decide +kernel
theorem dX2_become_7 : decode cX2_become 7 = .ok (.lload 5, 2) := by decide +kernel
theorem dX2_become_9 : decode cX2_become 9 = .ok (.lconst 0, 1) := by decide +kernel
theorem dX2_become_10 : decode cX2_become 10 = .ok (.lcmp, 1) := by decide +kernel
theorem dX2_become_11 : decode cX2_become 11 = .ok (.ifCond .le 19, 3) := by decide +kernel
theorem dX2_become_14 : decode cX2_become 14 = .ok (.aload_n 0, 1) := by decide +kernel
theorem dX2_become_15 : decode cX2_become 15 = .ok (.lload_n 1, 1) := by decide +kernel
theorem dX2_become_16 : decode cX2_become 16 = .ok (.lload 5, 2) := by decide +kernel
theorem dX2_become_18 : decode cX2_become 18 = .ok (.ldiv, 1) := by decide +kernel
theorem dX2_become_19 : decode cX2_become 19 = .ok (.putfield 17, 3) := by decide +kernel
theorem dX2_become_22 : decode cX2_become 22 = .ok (.aload_n 0, 1) := by decide +kernel
theorem dX2_become_23 : decode cX2_become 23 = .ok (.lload_n 3, 1) := by decide +kernel
theorem dX2_become_24 : decode cX2_become 24 = .ok (.lload 5, 2) := by decide +kernel
theorem dX2_become_26 : decode cX2_become 26 = .ok (.ldiv, 1) := by decide +kernel
theorem dX2_become_27 : decode cX2_become 27 = .ok (.putfield 7, 3) := by decide +kernel
theorem dX2_become_30 : decode cX2_become 30 = .ok (.return_, 1) := by decide +kernel
theorem dX2_commonDivisor_0 : decode cX2_commonDivisor 0 = .ok (.iconst 0, 1) := by decide +kernel
theorem dX2_commonDivisor_1 : decode cX2_commonDivisor 1 = .ok (.istore 4, 2) := by decide +kernel
theorem dX2_commonDivisor_3 : decode cX2_commonDivisor 3 = .ok (.iload 4, 2) := by decide +kernel
theorem dX2_commonDivisor_5 : decode cX2_commonDivisor 5 = .ok (.bipush 100, 2) := by decide +kernel
theorem dX2_commonDivisor_7 : decode cX2_commonDivisor 7 = .ok (.if_icmp .ge 25, 3) := by decide +kernel
theorem dX2_commonDivisor_10 : decode cX2_commonDivisor 10 = .ok (.lload_n 2, 1) := by decide +kernel
theorem dX2_commonDivisor_11 : decode cX2_commonDivisor 11 = .ok (.lconst 0, 1) := by decide +kernel
theorem dX2_commonDivisor_12 : decode cX2_commonDivisor 12 = .ok (.lcmp, 1) := by decide +kernel
theorem dX2_commonDivisor_13 : decode cX2_commonDivisor 13 = .ok (.ifCond .le 19, 3) := by decide +kernel
theorem dX2_commonDivisor_16 : decode cX2_commonDivisor 16 = .ok (.lload_n 0, 1) := by decide +kernel
theorem dX2_commonDivisor_17 : decode cX2_commonDivisor 17 = .ok (.lload_n 2, 1) := by decide +kernel
theorem dX2_commonDivisor_18 : decode cX2_commonDivisor 18 = .ok (.lrem, 1) := by decide +kernel
theorem dX2_commonDivisor_19 : decode cX2_commonDivisor 19 = .ok (.lstore 5, 2) := by decide +kernel
theorem dX2_commonDivisor_21 : decode cX2_commonDivisor 21 = .ok (.lload_n 2, 1) := by decide +kernel
theorem dX2_commonDivisor_22 : decode cX2_commonDivisor 22 = .ok (.lstore_n 0, 1) := by decide +kernel
theorem dX2_commonDivisor_23 : decode cX2_commonDivisor 23 = .ok (.lload 5, 2) := by decide +kernel
theorem dX2_commonDivisor_25 : decode cX2_commonDivisor 25 = .ok (.lstore_n 2, 1) := by decide +kernel
theorem dX2_commonDivisor_26 : decode cX2_commonDivisor 26 = .ok (.iinc 4 1, 3) := by decide +kernel
theorem dX2_commonDivisor_29 : decode cX2_commonDivisor 29 = .ok (.goto (-26), 3) := by decide +kernel
theorem dX2_commonDivisor_32 : decode cX2_commonDivisor 32 = .ok (.lload_n 0, 1) := by decide +kernel
theorem dX2_commonDivisor_33 : decode cX2_commonDivisor 33 = .ok (.lreturn, 1) := by decide +kernel
theorem dX3_init_0 : decode cX3_init 0 = .ok (.aload_n 0, 1) := by decide +kernel
theorem dX3_init_1 : decode cX3_init 1 = .ok (.invokespecial 3, 3) := by decide +kernel
theorem dX3_init_4 : decode cX3_init 4 = .ok (.aload_n 0, 1) := by decide +kernel
theorem dX3_init_5 : decode cX3_init 5 = .ok (.new 9, 3) := by decide +kernel
theorem dX3_init_8 : decode cX3_init 8 = .ok (.dup, 1) := by decide +kernel
theorem dX3_init_9 : decode cX3_init 9 = .ok (.invokespecial 11, 3) := by decide +kernel
theorem dX3_init_12 : decode cX3_init 12 = .ok (.putfield 12, 3) := by decide +kernel
theorem dX3_init_15 : decode cX3_init 15 = .ok (.aload_n 0, 1) := by decide +kernel
theorem dX3_init_16 : decode cX3_init 16 = .ok (.new 9, 3) := by decide +kernel
theorem dX3_init_19 : decode cX3_init 19 = .ok (.dup, 1) := by decide +kernel
theorem dX3_init_20 : decode cX3_init 20 = .ok (.invokespecial 11, 3) := by decide +kernel
theorem dX3_init_23 : decode cX3_init 23 = .ok (.putfield 18, 3) := by decide +kernel
theorem dX3_init_26 : decode cX3_init 26 = .ok (.aload_n 0, 1) := by decide +kernel
theorem dX3_init_27 : decode cX3_init 27 = .ok (.new 9, 3) := by decide +kernel
theorem dX3_init_30 : decode cX3_init 30 = .ok (.dup, 1) := by decide +kernel
theorem dX3_init_31 : decode cX3_init 31 = .ok (.invokespecial 11, 3) := by decide +kernel
theorem dX3_init_34 : decode cX3_init 34 = .ok (.putfield 21, 3) := by decide +kernel
theorem dX3_init_37 : decode cX3_init 37 = .ok (.return_, 1) := by decide +kernel
theorem dX3_keepNight_0 : decode cX3_keepNight 0 = .ok (.aload_n 0, 1) := by decide +kernel
theorem dX3_keepNight_1 : decode cX3_keepNight 1 = .ok (.getfield 21, 3) := by decide +kernel
theorem dX3_keepNight_4 : decode cX3_keepNight 4 = .ok (.aload_n 0, 1) := by decide +kernel
theorem dX3_keepNight_5 : decode cX3_keepNight 5 = .ok (.getfield 18, 3) := by decide +kernel
theorem dX3_keepNight_8 : decode cX3_keepNight 8 = .ok (.invokevirtual 24, 3) := by decide +kernel
theorem dX3_keepNight_11 : decode cX3_keepNight 11 = .ok (.aload_n 0, 1) := by decide +kernel
theorem dX3_keepNight_12 : decode cX3_keepNight 12 = .ok (.getfield 18, 3) := by decide +kernel
theorem dX3_keepNight_15 : decode cX3_keepNight 15 = .ok (.aload_n 0, 1) := by decide +kernel
theorem dX3_keepNight_16 : decode cX3_keepNight 16 = .ok (.getfield 12, 3) := by decide +kernel
theorem dX3_keepNight_19 : decode cX3_keepNight 19 = .ok (.invokevirtual 24, 3) := by decide +kernel
theorem dX3_keepNight_22 : decode cX3_keepNight 22 = .ok (.aload_n 0, 1) := by decide +kernel
theorem dX3_keepNight_23 : decode cX3_keepNight 23 = .ok (.iconst 2, 1) := by decide +kernel
theorem dX3_keepNight_24 : decode cX3_keepNight 24 = .ok (.aload_n 0, 1) := by decide +kernel
theorem dX3_keepNight_25 : decode cX3_keepNight 25 = .ok (.getfield 28, 3) := by decide +kernel
theorem dX3_keepNight_28 : decode cX3_keepNight 28 = .ok (.iconst 1, 1) := by decide +kernel
theorem dX3_keepNight_29 : decode cX3_keepNight 29 = .ok (.iadd, 1) := by decide +kernel
theorem dX3_keepNight_30 : decode cX3_keepNight 30 = .ok (.invokestatic 32, 3) := by decide +kernel
theorem dX3_keepNight_33 : decode cX3_keepNight 33 = .ok (.putfield 28, 3) := by decide +kernel
theorem dX3_keepNight_36 : decode cX3_keepNight 36 = .ok (.return_, 1) := by decide +kernel
theorem dX3_goBack_0 : decode cX3_goBack 0 = .ok (.aload_n 0, 1) := by decide +kernel
theorem dX3_goBack_1 : decode cX3_goBack 1 = .ok (.getfield 12, 3) := by decide +kernel
theorem dX3_goBack_4 : decode cX3_goBack 4 = .ok (.aload_n 0, 1) := by decide +kernel
theorem dX3_goBack_5 : decode cX3_goBack 5 = .ok (.getfield 18, 3) := by decide +kernel
theorem dX3_goBack_8 : decode cX3_goBack 8 = .ok (.invokevirtual 24, 3) := by decide +kernel
theorem dX3_goBack_11 : decode cX3_goBack 11 = .ok (.aload_n 0, 1) := by decide +kernel
theorem dX3_goBack_12 : decode cX3_goBack 12 = .ok (.getfield 18, 3) := by decide +kernel
theorem dX3_goBack_15 : decode cX3_goBack 15 = .ok (.aload_n 0, 1) := by decide +kernel
theorem dX3_goBack_16 : decode cX3_goBack 16 = .ok (.getfield 21, 3) := by decide +kernel
theorem dX3_goBack_19 : decode cX3_goBack 19 = .ok (.invokevirtual 24, 3) := by decide +kernel
theorem dX3_goBack_22 : decode cX3_goBack 22 = .ok (.aload_n 0, 1) := by decide +kernel
theorem dX3_goBack_23 : decode cX3_goBack 23 = .ok (.iconst 0, 1) := by decide +kernel
theorem dX3_goBack_24 : decode cX3_goBack 24 = .ok (.aload_n 0, 1) := by decide +kernel
theorem dX3_goBack_25 : decode cX3_goBack 25 = .ok (.getfield 28, 3) := by decide +kernel
theorem dX3_goBack_28 : decode cX3_goBack 28 = .ok (.iconst 1, 1) := by decide +kernel
theorem dX3_goBack_29 : decode cX3_goBack 29 = .ok (.isub, 1) := by decide +kernel
theorem dX3_goBack_30 : decode cX3_goBack 30 = .ok (.invokestatic 38, 3) := by decide +kernel
theorem dX3_goBack_33 : decode cX3_goBack 33 = .ok (.putfield 28, 3) := by decide +kernel
theorem dX3_goBack_36 : decode cX3_goBack 36 = .ok (.return_, 1) := by decide +kernel
theorem dX3_copyFrom_0 : decode cX3_copyFrom 0 = .ok (.aload_n 0, 1) := by decide +kernel
theorem dX3_copyFrom_1 : decode cX3_copyFrom 1 = .ok (.getfield 12, 3) := by decide +kernel
theorem dX3_copyFrom_4 : decode cX3_copyFrom 4 = .ok (.aload_n 1, 1) := by decide +kernel
theorem dX3_copyFrom_5 : decode cX3_copyFrom 5 = .ok (.getfield 12, 3) := by decide +kernel
theorem dX3_copyFrom_8 : decode cX3_copyFrom 8 = .ok (.invokevirtual 24, 3) := by decide +kernel
theorem dX3_copyFrom_11 : decode cX3_copyFrom 11 = .ok (.aload_n 0, 1) := by decide +kernel
theorem dX3_copyFrom_12 : decode cX3_copyFrom 12 = .ok (.getfield 18, 3) := by decide +kernel
theorem dX3_copyFrom_15 : decode cX3_copyFrom 15 = .ok (.aload_n 1, 1) := by decide +kernel
theorem dX3_copyFrom_16 : decode cX3_copyFrom 16 = .ok (.getfield 18, 3) := by decide +kernel
theorem dX3_copyFrom_19 : decode cX3_copyFrom 19 = .ok (.invokevirtual 24, 3) := by decide +kernel
theorem dX3_copyFrom_22 : decode cX3_copyFrom 22 = .ok (.aload_n 0, 1) := by decide +kernel
theorem dX3_copyFrom_23 : decode cX3_copyFrom 23 = .ok (.getfield 21, 3) := by decide +kernel
theorem dX3_copyFrom_26 : decode cX3_copyFrom 26 = .ok (.aload_n 1, 1) := by decide +kernel
theorem dX3_copyFrom_27 : decode cX3_copyFrom 27 = .ok (.getfield 21, 3) := by decide +kernel
theorem dX3_copyFrom_30 : decode cX3_copyFrom 30 = .ok (.invokevirtual 24, 3) := by decide +kernel
theorem dX3_copyFrom_33 : decode cX3_copyFrom 33 = .ok (.aload_n 0, 1) := by decide +kernel
theorem dX3_copyFrom_34 : decode cX3_copyFrom 34 = .ok (.aload_n 1, 1) := by decide +kernel
theorem dX3_copyFrom_35 : decode cX3_copyFrom 35 = .ok (.getfield 28, 3) := by decide +kernel
theorem dX3_copyFrom_38 : decode cX3_copyFrom 38 = .ok (.putfield 28, 3) := by decide +kernel
theorem dX3_copyFrom_41 : decode cX3_copyFrom 41 = .ok (.return_, 1) := by decide +kernel
theorem dX4_init_0 : decode cX4_init 0 = .ok (.aload_n 0, 1) := by decide +kernel
theorem dX4_init_1 : decode cX4_init 1 = .ok (.invokespecial 3, 3) := by decide +kernel
theorem dX4_init_4 : decode cX4_init 4 = .ok (.aload_n 0, 1) := by decide +kernel
theorem dX4_init_5 : decode cX4_init 5 = .ok (.iconst 1, 1) := by decide +kernel
theorem dX4_init_6 : decode cX4_init 6 = .ok (.putfield 9, 3) := by decide +kernel
theorem dX4_init_9 : decode cX4_init 9 = .ok (.aload_n 0, 1) := by decide +kernel
theorem dX4_init_10 : decode cX4_init 10 = .ok (.new 15, 3) := by decide +kernel
theorem dX4_init_13 : decode cX4_init 13 = .ok (.dup, 1) := by decide +kernel
theorem dX4_init_14 : decode cX4_init 14 = .ok (.iconst 5, 1) := by decide +kernel
theorem dX4_init_15 : decode cX4_init 15 = .ok (.bipush 12, 2) := by decide +kernel
theorem dX4_init_17 : decode cX4_init 17 = .ok (.invokespecial 17, 3) := by decide +kernel
theorem dX4_init_20 : decode cX4_init 20 = .ok (.putfield 20, 3) := by decide +kernel
theorem dX4_init_23 : decode cX4_init 23 = .ok (.aload_n 0, 1) := by decide +kernel
theorem dX4_init_24 : decode cX4_init 24 = .ok (.new 15, 3) := by decide +kernel
theorem dX4_init_27 : decode cX4_init 27 = .ok (.dup, 1) := by decide +kernel
theorem dX4_init_28 : decode cX4_init 28 = .ok (.iconst 5, 1) := by decide +kernel
theorem dX4_init_29 : decode cX4_init 29 = .ok (.bipush 6, 2) := by decide +kernel
theorem dX4_init_31 : decode cX4_init 31 = .ok (.invokespecial 17, 3) := by decide +kernel
theorem dX4_init_34 : decode cX4_init 34 = .ok (.putfield 24, 3) := by decide +kernel
theorem dX4_init_37 : decode cX4_init 37 = .ok (.aload_n 0, 1) := by decide +kernel
theorem dX4_init_38 : decode cX4_init 38 = .ok (.iconst 5, 1) := by decide +kernel
theorem dX4_init_39 : decode cX4_init 39 = .ok (.newarray .int, 2) := by decide +kernel
theorem dX4_init_41 : decode cX4_init 41 = .ok (.putfield 27, 3) := by decide +kernel
theorem dX4_init_44 : decode cX4_init 44 = .ok (.aload_n 0, 1) := by decide +kernel
theorem dX4_init_45 : decode cX4_init 45 = .ok (.bipush 12, 2) := by decide +kernel
theorem dX4_init_47 : decode cX4_init 47 = .ok (.newarray .int, 2) := by decide +kernel
theorem dX4_init_49 : decode cX4_init 49 = .ok (.putfield 31, 3) := by decide +kernel
theorem dX4_init_52 : decode cX4_init 52 = .ok (.aload_n 0, 1) := by decide +kernel
theorem dX4_init_53 : decode cX4_init 53 = .ok (.bipush 6, 2) := by decide +kernel
theorem dX4_init_55 : decode cX4_init 55 = .ok (.newarray .int, 2) := by decide +kernel
theorem dX4_init_57 : decode cX4_init 57 = .ok (.putfield 34, 3) := by decide +kernel
theorem dX4_init_60 : decode cX4_init 60 = .ok (.aload_n 0, 1) := by decide +kernel
theorem dX4_init_61 : decode cX4_init 61 = .ok (.bipush 6, 2) := by decide +kernel
theorem dX4_init_63 : decode cX4_init 63 = .ok (.newarray .int, 2) := by decide +kernel
theorem dX4_init_65 : decode cX4_init 65 = .ok (.putfield 37, 3) := by decide +kernel
theorem dX4_init_68 : decode cX4_init 68 = .ok (.aload_n 0, 1) := by decide +kernel
theorem dX4_init_69 : decode cX4_init 69 = .ok (.iconst 5, 1) := by decide +kernel
theorem dX4_init_70 : decode cX4_init 70 = .ok (.newarray .int, 2) := by decide +kernel
theorem dX4_init_72 : decode cX4_init 72 = .ok (.putfield 40, 3) := by decide +kernel
theorem dX4_init_75 : decode cX4_init 75 = .ok (.aload_n 0, 1) := by decide +kernel
theorem dX4_init_76 : decode cX4_init 76 = .ok (.iconst 5, 1) := by decide +kernel
theorem dX4_init_77 : decode cX4_init 77 = .ok (.newarray .int, 2) := by decide +kernel
theorem dX4_init_79 : decode cX4_init 79 = .ok (.putfield 43, 3) := by decide +kernel
theorem dX4_init_82 : decode cX4_init 82 = .ok (.return_, 1) := by decide +kernel
theorem dX4_make_0 : decode cX4_make 0 = .ok (.aload_n 0, 1) := by decide +kernel
theorem dX4_make_1 : decode cX4_make 1 = .ok (.getfield 9, 3) := by decide +kernel
theorem dX4_make_4 : decode cX4_make 4 = .ok (.ifCond .ne 4, 3) := by decide +kernel
theorem dX4_make_7 : decode cX4_make 7 = .ok (.return_, 1) := by decide +kernel
theorem dX4_make_8 : decode cX4_make 8 = .ok (.aload_n 0, 1) := by decide +kernel
theorem dX4_make_9 : decode cX4_make 9 = .ok (.iconst 5, 1) := by decide +kernel
theorem dX4_make_10 : decode cX4_make 10 = .ok (.aload_n 1, 1) := by decide +kernel
theorem dX4_make_11 : decode cX4_make 11 = .ok (.getfield 46, 3) := by decide +kernel
theorem dX4_make_14 : decode cX4_make 14 = .ok (.getfield 51, 3) := by decide +kernel
theorem dX4_make_17 : decode cX4_make 17 = .ok (.invokestatic 55, 3) := by decide +kernel
theorem dX4_make_20 : decode cX4_make 20 = .ok (.putfield 61, 3) := by decide +kernel
theorem dX4_make_23 : decode cX4_make 23 = .ok (.aload_n 0, 1) := by decide +kernel
theorem dX4_make_24 : decode cX4_make 24 = .ok (.bipush 12, 2) := by decide +kernel
theorem dX4_make_26 : decode cX4_make 26 = .ok (.aload_n 1, 1) := by decide +kernel
theorem dX4_make_27 : decode cX4_make 27 = .ok (.getfield 63, 3) := by decide +kernel
theorem dX4_make_30 : decode cX4_make 30 = .ok (.getfield 51, 3) := by decide +kernel
theorem dX4_make_33 : decode cX4_make 33 = .ok (.invokestatic 55, 3) := by decide +kernel
theorem dX4_make_36 : decode cX4_make 36 = .ok (.putfield 66, 3) := by decide +kernel
theorem dX4_make_39 : decode cX4_make 39 = .ok (.aload_n 0, 1) := by decide +kernel
theorem dX4_make_40 : decode cX4_make 40 = .ok (.getfield 20, 3) := by decide +kernel
theorem dX4_make_43 : decode cX4_make 43 = .ok (.aload_n 0, 1) := by decide +kernel
theorem dX4_make_44 : decode cX4_make 44 = .ok (.getfield 61, 3) := by decide +kernel
theorem dX4_make_47 : decode cX4_make 47 = .ok (.putfield 51, 3) := by decide +kernel
theorem dX4_make_50 : decode cX4_make 50 = .ok (.aload_n 0, 1) := by decide +kernel
theorem dX4_make_51 : decode cX4_make 51 = .ok (.getfield 24, 3) := by decide +kernel
theorem dX4_make_54 : decode cX4_make 54 = .ok (.aload_n 0, 1) := by decide +kernel
theorem dX4_make_55 : decode cX4_make 55 = .ok (.getfield 61, 3) := by decide +kernel
theorem dX4_make_58 : decode cX4_make 58 = .ok (.putfield 51, 3) := by decide +kernel
theorem dX4_make_61 : decode cX4_make 61 = .ok (.iconst 0, 1) := by decide +kernel
theorem dX4_make_62 : decode cX4_make 62 = .ok (.istore_n 2, 1) := by decide +kernel
theorem dX4_make_63 : decode cX4_make 63 = .ok (.iload_n 2, 1) := by decide +kernel
theorem dX4_make_64 : decode cX4_make 64 = .ok (.aload_n 0, 1) := by decide +kernel
theorem dX4_make_65 : decode cX4_make 65 = .ok (.getfield 66, 3) := by decide +kernel
theorem dX4_make_68 : decode cX4_make 68 = .ok (.if_icmp .ge 24, 3) := by decide +kernel
theorem dX4_make_71 : decode cX4_make 71 = .ok (.aload_n 0, 1) := by decide +kernel
theorem dX4_make_72 : decode cX4_make 72 = .ok (.getfield 31, 3) := by decide +kernel
theorem dX4_make_75 : decode cX4_make 75 = .ok (.iload_n 2, 1) := by decide +kernel
theorem dX4_make_76 : decode cX4_make 76 = .ok (.aload_n 1, 1) := by decide +kernel
theorem dX4_make_77 : decode cX4_make 77 = .ok (.getfield 63, 3) := by decide +kernel
theorem dX4_make_80 : decode cX4_make 80 = .ok (.iload_n 2, 1) := by decide +kernel
theorem dX4_make_81 : decode cX4_make 81 = .ok (.iconst 1, 1) := by decide +kernel
theorem dX4_make_82 : decode cX4_make 82 = .ok (.invokevirtual 68, 3) := by decide +kernel
theorem dX4_make_85 : decode cX4_make 85 = .ok (.iastore, 1) := by decide +kernel
theorem dX4_make_86 : decode cX4_make 86 = .ok (.iinc 2 1, 3) := by decide +kernel
theorem dX4_make_89 : decode cX4_make 89 = .ok (.goto (-26), 3) := by decide +kernel
theorem dX4_make_92 : decode cX4_make 92 = .ok (.iconst 0, 1) := by decide +kernel
theorem dX4_make_93 : decode cX4_make 93 = .ok (.istore_n 2, 1) := by decide +kernel
theorem dX4_make_94 : decode cX4_make 94 = .ok (.iload_n 2, 1) := by decide +kernel
theorem dX4_make_95 : decode cX4_make 95 = .ok (.aload_n 0, 1) := by decide +kernel
theorem dX4_make_96 : decode cX4_make 96 = .ok (.getfield 61, 3) := by decide +kernel
theorem dX4_make_99 : decode cX4_make 99 = .ok (.if_icmp .ge 15, 3) := by decide +kernel
theorem dX4_make_102 : decode cX4_make 102 = .ok (.aload_n 0, 1) := by decide +kernel
theorem dX4_make_103 : decode cX4_make 103 = .ok (.aload_n 1, 1) := by decide +kernel
theorem dX4_make_104 : decode cX4_make 104 = .ok (.iload_n 2, 1) := by decide +kernel
theorem dX4_make_105 : decode cX4_make 105 = .ok (.invokevirtual 71, 3) := by decide +kernel
theorem dX4_make_108 : decode cX4_make 108 = .ok (.iinc 2 1, 3) := by decide +kernel
theorem dX4_make_111 : decode cX4_make 111 = .ok (.goto (-17), 3) := by decide +kernel
theorem dX4_make_114 : decode cX4_make 114 = .ok (.aload_n 0, 1) := by decide +kernel
theorem dX4_make_115 : decode cX4_make 115 = .ok (.invokevirtual 75, 3) := by decide +kernel
theorem dX4_make_118 : decode cX4_make 118 = .ok (.aload_n 0, 1) := by decide +kernel
theorem dX4_make_119 : decode cX4_make 119 = .ok (.iconst (-1), 1) := by decide +kernel
theorem dX4_make_120 : decode cX4_make 120 = .ok (.putfield 78, 3) := by decide +kernel
theorem dX4_make_123 : decode cX4_make 123 = .ok (.aload_n 0, 1) := by decide +kernel
theorem dX4_make_124 : decode cX4_make 124 = .ok (.iconst 0, 1) := by decide +kernel
theorem dX4_make_125 : decode cX4_make 125 = .ok (.putfield 81, 3) := by decide +kernel
theorem dX4_make_128 : decode cX4_make 128 = .ok (.aload_n 0, 1) := by decide +kernel
theorem dX4_make_129 : decode cX4_make 129 = .ok (.iconst 0, 1) := by decide +kernel
theorem dX4_make_130 : decode cX4_make 130 = .ok (.iconst 0, 1) := by decide +kernel
theorem dX4_make_131 : decode cX4_make 131 = .ok (.iconst 0, 1) := by decide +kernel
theorem dX4_make_132 : decode cX4_make 132 = .ok (.iconst 0, 1) := by decide +kernel
theorem dX4_make_133 : decode cX4_make 133 = .ok (.invokestatic 84, 3) := by decide +kernel
theorem dX4_make_136 : decode cX4_make 136 = .ok (.aload_n 0, 1) := by decide +kernel
theorem dX4_make_137 : decode cX4_make 137 = .ok (.iconst 0, 1) := by decide +kernel
theorem dX4_make_138 : decode cX4_make 138 = .ok (.putfield 9, 3) := by decide +kernel
theorem dX4_make_141 : decode cX4_make 141 = .ok (.return_, 1) := by decide +kernel
theorem dX4_favourOf_0 : decode cX4_favourOf 0 = .ok (.iload_n 1, 1) := by decide +kernel
theorem dX4_favourOf_1 : decode cX4_favourOf 1 = .ok (.ifCond .lt 21, 3) := by decide +kernel
theorem dX4_favourOf_4 : decode cX4_favourOf 4 = .ok (.iload_n 1, 1) := by decide +kernel
theorem dX4_favourOf_5 : decode cX4_favourOf 5 = .ok (.aload_n 0, 1) := by decide +kernel
theorem dX4_favourOf_6 : decode cX4_favourOf 6 = .ok (.getfield 43, 3) := by decide +kernel
theorem dX4_favourOf_9 : decode cX4_favourOf 9 = .ok (.arraylength, 1) := by decide +kernel
theorem dX4_favourOf_10 : decode cX4_favourOf 10 = .ok (.if_icmp .ge 12, 3) := by decide +kernel
theorem dX4_favourOf_13 : decode cX4_favourOf 13 = .ok (.aload_n 0, 1) := by decide +kernel
theorem dX4_favourOf_14 : decode cX4_favourOf 14 = .ok (.getfield 43, 3) := by decide +kernel
theorem dX4_favourOf_17 : decode cX4_favourOf 17 = .ok (.iload_n 1, 1) := by decide +kernel
theorem dX4_favourOf_18 : decode cX4_favourOf 18 = .ok (.iaload, 1) := by decide +kernel
theorem dX4_favourOf_19 : decode cX4_favourOf 19 = .ok (.goto 4, 3) := by decide +kernel
theorem dX4_favourOf_22 : decode cX4_favourOf 22 = .ok (.iconst (-1), 1) := by decide +kernel
theorem dX4_favourOf_23 : decode cX4_favourOf 23 = .ok (.ireturn, 1) := by decide +kernel
theorem dX4_layOut_0 : decode cX4_layOut 0 = .ok (.aload_n 1, 1) := by decide +kernel
theorem dX4_layOut_1 : decode cX4_layOut 1 = .ok (.getfield 46, 3) := by decide +kernel
theorem dX4_layOut_4 : decode cX4_layOut 4 = .ok (.iload_n 2, 1) := by decide +kernel
theorem dX4_layOut_5 : decode cX4_layOut 5 = .ok (.iconst 3, 1) := by decide +kernel
theorem dX4_layOut_6 : decode cX4_layOut 6 = .ok (.invokevirtual 68, 3) := by decide +kernel
theorem dX4_layOut_9 : decode cX4_layOut 9 = .ok (.istore_n 3, 1) := by decide +kernel
theorem dX4_layOut_10 : decode cX4_layOut 10 = .ok (.iconst 0, 1) := by decide +kernel
theorem dX4_layOut_11 : decode cX4_layOut 11 = .ok (.istore 4, 2) := by decide +kernel
theorem dX4_layOut_13 : decode cX4_layOut 13 = .ok (.iload 4, 2) := by decide +kernel
theorem dX4_layOut_15 : decode cX4_layOut 15 = .ok (.iload_n 2, 1) := by decide +kernel
theorem dX4_layOut_16 : decode cX4_layOut 16 = .ok (.if_icmp .ge 23, 3) := by decide +kernel
theorem dX4_layOut_19 : decode cX4_layOut 19 = .ok (.aload_n 1, 1) := by decide +kernel
theorem dX4_layOut_20 : decode cX4_layOut 20 = .ok (.getfield 46, 3) := by decide +kernel
theorem dX4_layOut_23 : decode cX4_layOut 23 = .ok (.iload 4, 2) := by decide +kernel
theorem dX4_layOut_25 : decode cX4_layOut 25 = .ok (.iconst 3, 1) := by decide +kernel
theorem dX4_layOut_26 : decode cX4_layOut 26 = .ok (.invokevirtual 68, 3) := by decide +kernel
theorem dX4_layOut_29 : decode cX4_layOut 29 = .ok (.iload_n 3, 1) := by decide +kernel
theorem dX4_layOut_30 : decode cX4_layOut 30 = .ok (.if_icmp .eq 9, 3) := by decide +kernel
theorem dX4_layOut_33 : decode cX4_layOut 33 = .ok (.iinc 4 1, 3) := by decide +kernel
theorem dX4_layOut_36 : decode cX4_layOut 36 = .ok (.goto (-23), 3) := by decide +kernel
theorem dX4_layOut_39 : decode cX4_layOut 39 = .ok (.aload_n 0, 1) := by decide +kernel
theorem dX4_layOut_40 : decode cX4_layOut 40 = .ok (.getfield 27, 3) := by decide +kernel
theorem dX4_layOut_43 : decode cX4_layOut 43 = .ok (.iload_n 2, 1) := by decide +kernel
theorem dX4_layOut_44 : decode cX4_layOut 44 = .ok (.iload 4, 2) := by decide +kernel
theorem dX4_layOut_46 : decode cX4_layOut 46 = .ok (.iastore, 1) := by decide +kernel
theorem dX4_layOut_47 : decode cX4_layOut 47 = .ok (.iconst 0, 1) := by decide +kernel
theorem dX4_layOut_48 : decode cX4_layOut 48 = .ok (.istore 5, 2) := by decide +kernel
theorem dX4_layOut_50 : decode cX4_layOut 50 = .ok (.iload 5, 2) := by decide +kernel
theorem dX4_layOut_52 : decode cX4_layOut 52 = .ok (.bipush 6, 2) := by decide +kernel
theorem dX4_layOut_54 : decode cX4_layOut 54 = .ok (.if_icmp .ge 29, 3) := by decide +kernel
theorem dX4_layOut_57 : decode cX4_layOut 57 = .ok (.aload_n 0, 1) := by decide +kernel
theorem dX4_layOut_58 : decode cX4_layOut 58 = .ok (.getfield 24, 3) := by decide +kernel
theorem dX4_layOut_61 : decode cX4_layOut 61 = .ok (.iload_n 2, 1) := by decide +kernel
theorem dX4_layOut_62 : decode cX4_layOut 62 = .ok (.iload 5, 2) := by decide +kernel
theorem dX4_layOut_64 : decode cX4_layOut 64 = .ok (.aload_n 1, 1) := by decide +kernel
theorem dX4_layOut_65 : decode cX4_layOut 65 = .ok (.getfield 88, 3) := by decide +kernel
theorem dX4_layOut_68 : decode cX4_layOut 68 = .ok (.iload 5, 2) := by decide +kernel
theorem dX4_layOut_70 : decode cX4_layOut 70 = .ok (.iconst 0, 1) := by decide +kernel
theorem dX4_layOut_71 : decode cX4_layOut 71 = .ok (.invokevirtual 68, 3) := by decide +kernel
theorem dX4_layOut_74 : decode cX4_layOut 74 = .ok (.invokevirtual 91, 3) := by decide +kernel
theorem dX4_layOut_77 : decode cX4_layOut 77 = .ok (.iinc 5 1, 3) := by decide +kernel
theorem dX4_layOut_80 : decode cX4_layOut 80 = .ok (.goto (-30), 3) := by decide +kernel
theorem dX4_layOut_83 : decode cX4_layOut 83 = .ok (.iconst 0, 1) := by decide +kernel
theorem dX4_layOut_84 : decode cX4_layOut 84 = .ok (.istore 5, 2) := by decide +kernel
theorem dX4_layOut_86 : decode cX4_layOut 86 = .ok (.iload 5, 2) := by decide +kernel
theorem dX4_layOut_88 : decode cX4_layOut 88 = .ok (.aload_n 0, 1) := by decide +kernel
theorem dX4_layOut_89 : decode cX4_layOut 89 = .ok (.getfield 66, 3) := by decide +kernel
theorem dX4_layOut_92 : decode cX4_layOut 92 = .ok (.if_icmp .ge 108, 3) := by decide +kernel
theorem dX4_layOut_95 : decode cX4_layOut 95 = .ok (.aload_n 1, 1) := by decide +kernel
theorem dX4_layOut_96 : decode cX4_layOut 96 = .ok (.getfield 63, 3) := by decide +kernel
theorem dX4_layOut_99 : decode cX4_layOut 99 = .ok (.iload 5, 2) := by decide +kernel
theorem dX4_layOut_101 : decode cX4_layOut 101 = .ok (.iconst 2, 1) := by decide +kernel
theorem dX4_layOut_102 : decode cX4_layOut 102 = .ok (.invokevirtual 68, 3) := by decide +kernel
theorem dX4_layOut_105 : decode cX4_layOut 105 = .ok (.aload_n 1, 1) := by decide +kernel
theorem dX4_layOut_106 : decode cX4_layOut 106 = .ok (.getfield 46, 3) := by decide +kernel
theorem dX4_layOut_109 : decode cX4_layOut 109 = .ok (.iload_n 2, 1) := by decide +kernel
theorem dX4_layOut_110 : decode cX4_layOut 110 = .ok (.iconst 0, 1) := by decide +kernel
theorem dX4_layOut_111 : decode cX4_layOut 111 = .ok (.invokevirtual 68, 3) := by decide +kernel
theorem dX4_layOut_114 : decode cX4_layOut 114 = .ok (.if_icmp .ne 29, 3) := by decide +kernel
theorem dX4_layOut_117 : decode cX4_layOut 117 = .ok (.aload_n 1, 1) := by decide +kernel
theorem dX4_layOut_118 : decode cX4_layOut 118 = .ok (.getfield 63, 3) := by decide +kernel
theorem dX4_layOut_121 : decode cX4_layOut 121 = .ok (.iload 5, 2) := by decide +kernel
theorem dX4_layOut_123 : decode cX4_layOut 123 = .ok (.iconst 3, 1) := by decide +kernel
theorem dX4_layOut_124 : decode cX4_layOut 124 = .ok (.invokevirtual 68, 3) := by decide +kernel
theorem dX4_layOut_127 : decode cX4_layOut 127 = .ok (.aload_n 1, 1) := by decide +kernel
theorem dX4_layOut_128 : decode cX4_layOut 128 = .ok (.getfield 46, 3) := by decide +kernel
theorem dX4_layOut_131 : decode cX4_layOut 131 = .ok (.iload_n 2, 1) := by decide +kernel
theorem dX4_layOut_132 : decode cX4_layOut 132 = .ok (.iconst 1, 1) := by decide +kernel
theorem dX4_layOut_133 : decode cX4_layOut 133 = .ok (.invokevirtual 68, 3) := by decide +kernel
theorem dX4_layOut_136 : decode cX4_layOut 136 = .ok (.if_icmp .ne 7, 3) := by decide +kernel
theorem dX4_layOut_139 : decode cX4_layOut 139 = .ok (.iconst 1, 1) := by decide +kernel
theorem dX4_layOut_140 : decode cX4_layOut 140 = .ok (.goto 4, 3) := by decide +kernel
theorem dX4_layOut_143 : decode cX4_layOut 143 = .ok (.iconst 0, 1) := by decide +kernel
theorem dX4_layOut_144 : decode cX4_layOut 144 = .ok (.istore 6, 2) := by decide +kernel
theorem dX4_layOut_146 : decode cX4_layOut 146 = .ok (.iload 6, 2) := by decide +kernel
theorem dX4_layOut_148 : decode cX4_layOut 148 = .ok (.ifCond .eq 13, 3) := by decide +kernel
theorem dX4_layOut_151 : decode cX4_layOut 151 = .ok (.aload_n 1, 1) := by decide +kernel
theorem dX4_layOut_152 : decode cX4_layOut 152 = .ok (.iload 5, 2) := by decide +kernel
theorem dX4_layOut_154 : decode cX4_layOut 154 = .ok (.iload_n 3, 1) := by decide +kernel
theorem dX4_layOut_155 : decode cX4_layOut 155 = .ok (.invokevirtual 95, 3) := by decide +kernel
theorem dX4_layOut_158 : decode cX4_layOut 158 = .ok (.goto 4, 3) := by decide +kernel
theorem dX4_layOut_161 : decode cX4_layOut 161 = .ok (.iconst 0, 1) := by decide +kernel
theorem dX4_layOut_162 : decode cX4_layOut 162 = .ok (.istore 7, 2) := by decide +kernel
theorem dX4_layOut_164 : decode cX4_layOut 164 = .ok (.aload_n 0, 1) := by decide +kernel
theorem dX4_layOut_165 : decode cX4_layOut 165 = .ok (.getfield 20, 3) := by decide +kernel
theorem dX4_layOut_168 : decode cX4_layOut 168 = .ok (.iload_n 2, 1) := by decide +kernel
theorem dX4_layOut_169 : decode cX4_layOut 169 = .ok (.iload 5, 2) := by decide +kernel
theorem dX4_layOut_171 : decode cX4_layOut 171 = .ok (.iload 7, 2) := by decide +kernel
theorem dX4_layOut_173 : decode cX4_layOut 173 = .ok (.aload_n 1, 1) := by decide +kernel
theorem dX4_layOut_174 : decode cX4_layOut 174 = .ok (.getfield 46, 3) := by decide +kernel
theorem dX4_layOut_177 : decode cX4_layOut 177 = .ok (.iload_n 2, 1) := by decide +kernel
theorem dX4_layOut_178 : decode cX4_layOut 178 = .ok (.iconst 2, 1) := by decide +kernel
theorem dX4_layOut_179 : decode cX4_layOut 179 = .ok (.invokevirtual 68, 3) := by decide +kernel
theorem dX4_layOut_182 : decode cX4_layOut 182 = .ok (.if_icmp .lt 8, 3) := by decide +kernel
theorem dX4_layOut_185 : decode cX4_layOut 185 = .ok (.iload 7, 2) := by decide +kernel
theorem dX4_layOut_187 : decode cX4_layOut 187 = .ok (.goto 4, 3) := by decide +kernel
theorem dX4_layOut_190 : decode cX4_layOut 190 = .ok (.iconst 0, 1) := by decide +kernel
theorem dX4_layOut_191 : decode cX4_layOut 191 = .ok (.invokevirtual 91, 3) := by decide +kernel
theorem dX4_layOut_194 : decode cX4_layOut 194 = .ok (.iinc 5 1, 3) := by decide +kernel
theorem dX4_layOut_197 : decode cX4_layOut 197 = .ok (.goto (-111), 3) := by decide +kernel
theorem dX4_layOut_200 : decode cX4_layOut 200 = .ok (.return_, 1) := by decide +kernel
theorem dX4_lookAhead_0 : decode cX4_lookAhead 0 = .ok (.aload_n 0, 1) := by decide +kernel
theorem dX4_lookAhead_1 : decode cX4_lookAhead 1 = .ok (.getfield 34, 3) := by decide +kernel
theorem dX4_lookAhead_4 : decode cX4_lookAhead 4 = .ok (.aload_n 0, 1) := by decide +kernel
theorem dX4_lookAhead_5 : decode cX4_lookAhead 5 = .ok (.getfield 61, 3) := by decide +kernel
theorem dX4_lookAhead_8 : decode cX4_lookAhead 8 = .ok (.iconst 0, 1) := by decide +kernel
theorem dX4_lookAhead_9 : decode cX4_lookAhead 9 = .ok (.iastore, 1) := by decide +kernel
theorem dX4_lookAhead_10 : decode cX4_lookAhead 10 = .ok (.aload_n 0, 1) := by decide +kernel
theorem dX4_lookAhead_11 : decode cX4_lookAhead 11 = .ok (.getfield 37, 3) := by decide +kernel
theorem dX4_lookAhead_14 : decode cX4_lookAhead 14 = .ok (.aload_n 0, 1) := by decide +kernel
theorem dX4_lookAhead_15 : decode cX4_lookAhead 15 = .ok (.getfield 61, 3) := by decide +kernel
theorem dX4_lookAhead_18 : decode cX4_lookAhead 18 = .ok (.iconst 0, 1) := by decide +kernel
theorem dX4_lookAhead_19 : decode cX4_lookAhead 19 = .ok (.iastore, 1) := by decide +kernel
theorem dX4_lookAhead_20 : decode cX4_lookAhead 20 = .ok (.aload_n 0, 1) := by decide +kernel
theorem dX4_lookAhead_21 : decode cX4_lookAhead 21 = .ok (.getfield 61, 3) := by decide +kernel
theorem dX4_lookAhead_24 : decode cX4_lookAhead 24 = .ok (.iconst 1, 1) := by decide +kernel
theorem dX4_lookAhead_25 : decode cX4_lookAhead 25 = .ok (.isub, 1) := by decide +kernel
theorem dX4_lookAhead_26 : decode cX4_lookAhead 26 = .ok (.istore_n 1, 1) := by decide +kernel
theorem dX4_lookAhead_27 : decode cX4_lookAhead 27 = .ok (.iload_n 1, 1) := by decide +kernel
theorem dX4_lookAhead_28 : decode cX4_lookAhead 28 = .ok (.ifCond .lt 96, 3) := by decide +kernel
theorem dX4_lookAhead_31 : decode cX4_lookAhead 31 = .ok (.iconst 0, 1) := by decide +kernel
theorem dX4_lookAhead_32 : decode cX4_lookAhead 32 = .ok (.istore_n 2, 1) := by decide +kernel
theorem dX4_lookAhead_33 : decode cX4_lookAhead 33 = .ok (.iconst 0, 1) := by decide +kernel
theorem dX4_lookAhead_34 : decode cX4_lookAhead 34 = .ok (.istore_n 3, 1) := by decide +kernel
theorem dX4_lookAhead_35 : decode cX4_lookAhead 35 = .ok (.iload_n 3, 1) := by decide +kernel
theorem dX4_lookAhead_36 : decode cX4_lookAhead 36 = .ok (.aload_n 0, 1) := by decide +kernel
theorem dX4_lookAhead_37 : decode cX4_lookAhead 37 = .ok (.getfield 66, 3) := by decide +kernel
theorem dX4_lookAhead_40 : decode cX4_lookAhead 40 = .ok (.if_icmp .ge 38, 3) := by decide +kernel
theorem dX4_lookAhead_43 : decode cX4_lookAhead 43 = .ok (.aload_n 0, 1) := by decide +kernel
theorem dX4_lookAhead_44 : decode cX4_lookAhead 44 = .ok (.getfield 20, 3) := by decide +kernel
theorem dX4_lookAhead_47 : decode cX4_lookAhead 47 = .ok (.iload_n 1, 1) := by decide +kernel
theorem dX4_lookAhead_48 : decode cX4_lookAhead 48 = .ok (.iload_n 3, 1) := by decide +kernel
theorem dX4_lookAhead_49 : decode cX4_lookAhead 49 = .ok (.invokevirtual 68, 3) := by decide +kernel
theorem dX4_lookAhead_52 : decode cX4_lookAhead 52 = .ok (.istore 4, 2) := by decide +kernel
theorem dX4_lookAhead_54 : decode cX4_lookAhead 54 = .ok (.iload 4, 2) := by decide +kernel
theorem dX4_lookAhead_56 : decode cX4_lookAhead 56 = .ok (.ifCond .le 16, 3) := by decide +kernel
theorem dX4_lookAhead_59 : decode cX4_lookAhead 59 = .ok (.iload_n 2, 1) := by decide +kernel
theorem dX4_lookAhead_60 : decode cX4_lookAhead 60 = .ok (.ifCond .eq 9, 3) := by decide +kernel
theorem dX4_lookAhead_63 : decode cX4_lookAhead 63 = .ok (.iload 4, 2) := by decide +kernel
theorem dX4_lookAhead_65 : decode cX4_lookAhead 65 = .ok (.iload_n 2, 1) := by decide +kernel
theorem dX4_lookAhead_66 : decode cX4_lookAhead 66 = .ok (.if_icmp .ge 6, 3) := by decide +kernel
theorem dX4_lookAhead_69 : decode cX4_lookAhead 69 = .ok (.iload 4, 2) := by decide +kernel
theorem dX4_lookAhead_71 : decode cX4_lookAhead 71 = .ok (.istore_n 2, 1) := by decide +kernel
theorem dX4_lookAhead_72 : decode cX4_lookAhead 72 = .ok (.iinc 3 1, 3) := by decide +kernel
theorem dX4_lookAhead_75 : decode cX4_lookAhead 75 = .ok (.goto (-40), 3) := by decide +kernel
theorem dX4_lookAhead_78 : decode cX4_lookAhead 78 = .ok (.aload_n 0, 1) := by decide +kernel
theorem dX4_lookAhead_79 : decode cX4_lookAhead 79 = .ok (.getfield 34, 3) := by decide +kernel
theorem dX4_lookAhead_82 : decode cX4_lookAhead 82 = .ok (.iload_n 1, 1) := by decide +kernel
theorem dX4_lookAhead_83 : decode cX4_lookAhead 83 = .ok (.aload_n 0, 1) := by decide +kernel
theorem dX4_lookAhead_84 : decode cX4_lookAhead 84 = .ok (.getfield 34, 3) := by decide +kernel
theorem dX4_lookAhead_87 : decode cX4_lookAhead 87 = .ok (.iload_n 1, 1) := by decide +kernel
theorem dX4_lookAhead_88 : decode cX4_lookAhead 88 = .ok (.iconst 1, 1) := by decide +kernel
theorem dX4_lookAhead_89 : decode cX4_lookAhead 89 = .ok (.iadd, 1) := by decide +kernel
theorem dX4_lookAhead_90 : decode cX4_lookAhead 90 = .ok (.iaload, 1) := by decide +kernel
theorem dX4_lookAhead_91 : decode cX4_lookAhead 91 = .ok (.iload_n 2, 1) := by decide +kernel
theorem dX4_lookAhead_92 : decode cX4_lookAhead 92 = .ok (.ifCond .le 7, 3) := by decide +kernel
theorem dX4_lookAhead_95 : decode cX4_lookAhead 95 = .ok (.iconst 1, 1) := by decide +kernel
theorem dX4_lookAhead_96 : decode cX4_lookAhead 96 = .ok (.goto 4, 3) := by decide +kernel
theorem dX4_lookAhead_99 : decode cX4_lookAhead 99 = .ok (.iconst 0, 1) := by decide +kernel
theorem dX4_lookAhead_100 : decode cX4_lookAhead 100 = .ok (.iadd, 1) := by decide +kernel
theorem dX4_lookAhead_101 : decode cX4_lookAhead 101 = .ok (.iastore, 1) := by decide +kernel
theorem dX4_lookAhead_102 : decode cX4_lookAhead 102 = .ok (.aload_n 0, 1) := by decide +kernel
theorem dX4_lookAhead_103 : decode cX4_lookAhead 103 = .ok (.getfield 37, 3) := by decide +kernel
theorem dX4_lookAhead_106 : decode cX4_lookAhead 106 = .ok (.iload_n 1, 1) := by decide +kernel
theorem dX4_lookAhead_107 : decode cX4_lookAhead 107 = .ok (.aload_n 0, 1) := by decide +kernel
theorem dX4_lookAhead_108 : decode cX4_lookAhead 108 = .ok (.getfield 37, 3) := by decide +kernel
theorem dX4_lookAhead_111 : decode cX4_lookAhead 111 = .ok (.iload_n 1, 1) := by decide +kernel
theorem dX4_lookAhead_112 : decode cX4_lookAhead 112 = .ok (.iconst 1, 1) := by decide +kernel
theorem dX4_lookAhead_113 : decode cX4_lookAhead 113 = .ok (.iadd, 1) := by decide +kernel
theorem dX4_lookAhead_114 : decode cX4_lookAhead 114 = .ok (.iaload, 1) := by decide +kernel
theorem dX4_lookAhead_115 : decode cX4_lookAhead 115 = .ok (.iload_n 2, 1) := by decide +kernel
theorem dX4_lookAhead_116 : decode cX4_lookAhead 116 = .ok (.iadd, 1) := by decide +kernel
theorem dX4_lookAhead_117 : decode cX4_lookAhead 117 = .ok (.iastore, 1) := by decide +kernel
theorem dX4_lookAhead_118 : decode cX4_lookAhead 118 = .ok (.iinc 1 (-1), 3) := by decide +kernel
theorem dX4_lookAhead_121 : decode cX4_lookAhead 121 = .ok (.goto (-94), 3) := by decide +kernel
theorem dX4_lookAhead_124 : decode cX4_lookAhead 124 = .ok (.return_, 1) := by decide +kernel
theorem dX4_search_0 : decode cX4_search 0 = .ok (.iload_n 1, 1) := by decide +kernel
theorem dX4_search_1 : decode cX4_search 1 = .ok (.ifCond .lt 11, 3) := by decide +kernel
theorem dX4_search_4 : decode cX4_search 4 = .ok (.iload_n 1, 1) := by decide +kernel
theorem dX4_search_5 : decode cX4_search 5 = .ok (.aload_n 0, 1) := by decide +kernel
theorem dX4_search_6 : decode cX4_search 6 = .ok (.getfield 61, 3) := by decide +kernel
theorem dX4_search_9 : decode cX4_search 9 = .ok (.if_icmp .lt 11, 3) := by decide +kernel
theorem dX4_search_12 : decode cX4_search 12 = .ok (.aload_n 0, 1) := by decide +kernel
theorem dX4_search_13 : decode cX4_search 13 = .ok (.iload_n 3, 1) := by decide +kernel
theorem dX4_search_14 : decode cX4_search 14 = .ok (.iload 4, 2) := by decide +kernel
theorem dX4_search_16 : decode cX4_search 16 = .ok (.invokevirtual 98, 3) := by decide +kernel
theorem dX4_search_19 : decode cX4_search 19 = .ok (.return_, 1) := by decide +kernel
theorem dX4_search_20 : decode cX4_search 20 = .ok (.aload_n 0, 1) := by decide +kernel
theorem dX4_search_21 : decode cX4_search 21 = .ok (.iload_n 3, 1) := by decide +kernel
theorem dX4_search_22 : decode cX4_search 22 = .ok (.aload_n 0, 1) := by decide +kernel
theorem dX4_search_23 : decode cX4_search 23 = .ok (.getfield 34, 3) := by decide +kernel
theorem dX4_search_26 : decode cX4_search 26 = .ok (.iload_n 1, 1) := by decide +kernel
theorem dX4_search_27 : decode cX4_search 27 = .ok (.iaload, 1) := by decide +kernel
theorem dX4_search_28 : decode cX4_search 28 = .ok (.iadd, 1) := by decide +kernel
theorem dX4_search_29 : decode cX4_search 29 = .ok (.iload 4, 2) := by decide +kernel
theorem dX4_search_31 : decode cX4_search 31 = .ok (.aload_n 0, 1) := by decide +kernel
theorem dX4_search_32 : decode cX4_search 32 = .ok (.getfield 37, 3) := by decide +kernel
theorem dX4_search_35 : decode cX4_search 35 = .ok (.iload_n 1, 1) := by decide +kernel
theorem dX4_search_36 : decode cX4_search 36 = .ok (.iaload, 1) := by decide +kernel
theorem dX4_search_37 : decode cX4_search 37 = .ok (.iadd, 1) := by decide +kernel
theorem dX4_search_38 : decode cX4_search 38 = .ok (.invokevirtual 101, 3) := by decide +kernel
theorem dX4_search_41 : decode cX4_search 41 = .ok (.ifCond .eq 4, 3) := by decide +kernel
theorem dX4_search_44 : decode cX4_search 44 = .ok (.return_, 1) := by decide +kernel
theorem dX4_search_45 : decode cX4_search 45 = .ok (.aload_n 0, 1) := by decide +kernel
theorem dX4_search_46 : decode cX4_search 46 = .ok (.getfield 27, 3) := by decide +kernel
theorem dX4_search_49 : decode cX4_search 49 = .ok (.iload_n 1, 1) := by decide +kernel
theorem dX4_search_50 : decode cX4_search 50 = .ok (.iaload, 1) := by decide +kernel
theorem dX4_search_51 : decode cX4_search 51 = .ok (.istore 5, 2) := by decide +kernel
theorem dX4_search_53 : decode cX4_search 53 = .ok (.iconst 0, 1) := by decide +kernel
theorem dX4_search_54 : decode cX4_search 54 = .ok (.istore 6, 2) := by decide +kernel
theorem dX4_search_56 : decode cX4_search 56 = .ok (.iload 6, 2) := by decide +kernel
theorem dX4_search_58 : decode cX4_search 58 = .ok (.aload_n 0, 1) := by decide +kernel
theorem dX4_search_59 : decode cX4_search 59 = .ok (.getfield 66, 3) := by decide +kernel
theorem dX4_search_62 : decode cX4_search 62 = .ok (.if_icmp .ge 134, 3) := by decide +kernel
theorem dX4_search_65 : decode cX4_search 65 = .ok (.aload_n 0, 1) := by decide +kernel
theorem dX4_search_66 : decode cX4_search 66 = .ok (.getfield 20, 3) := by decide +kernel
theorem dX4_search_69 : decode cX4_search 69 = .ok (.iload_n 1, 1) := by decide +kernel
theorem dX4_search_70 : decode cX4_search 70 = .ok (.iload 6, 2) := by decide +kernel
theorem dX4_search_72 : decode cX4_search 72 = .ok (.invokevirtual 68, 3) := by decide +kernel
theorem dX4_search_75 : decode cX4_search 75 = .ok (.istore 7, 2) := by decide +kernel
theorem dX4_search_77 : decode cX4_search 77 = .ok (.iload 7, 2) := by decide +kernel
theorem dX4_search_79 : decode cX4_search 79 = .ok (.ifCond .le 16, 3) := by decide +kernel
theorem dX4_search_82 : decode cX4_search 82 = .ok (.iload_n 2, 1) := by decide +kernel
theorem dX4_search_83 : decode cX4_search 83 = .ok (.iconst 1, 1) := by decide +kernel
theorem dX4_search_84 : decode cX4_search 84 = .ok (.iload 6, 2) := by decide +kernel
theorem dX4_search_86 : decode cX4_search 86 = .ok (.ishl, 1) := by decide +kernel
theorem dX4_search_87 : decode cX4_search 87 = .ok (.iand, 1) := by decide +kernel
theorem dX4_search_88 : decode cX4_search 88 = .ok (.ifCond .ne 7, 3) := by decide +kernel
theorem dX4_search_91 : decode cX4_search 91 = .ok (.iconst 1, 1) := by decide +kernel
theorem dX4_search_92 : decode cX4_search 92 = .ok (.goto 4, 3) := by decide +kernel
theorem dX4_search_95 : decode cX4_search 95 = .ok (.iconst 0, 1) := by decide +kernel
theorem dX4_search_96 : decode cX4_search 96 = .ok (.istore 8, 2) := by decide +kernel
theorem dX4_search_98 : decode cX4_search 98 = .ok (.iload 8, 2) := by decide +kernel
theorem dX4_search_100 : decode cX4_search 100 = .ok (.ifCond .eq 90, 3) := by decide +kernel
theorem dX4_search_103 : decode cX4_search 103 = .ok (.iload 7, 2) := by decide +kernel
theorem dX4_search_105 : decode cX4_search 105 = .ok (.aload_n 0, 1) := by decide +kernel
theorem dX4_search_106 : decode cX4_search 106 = .ok (.getfield 24, 3) := by decide +kernel
theorem dX4_search_109 : decode cX4_search 109 = .ok (.iload 5, 2) := by decide +kernel
theorem dX4_search_111 : decode cX4_search 111 = .ok (.aload_n 0, 1) := by decide +kernel
theorem dX4_search_112 : decode cX4_search 112 = .ok (.getfield 31, 3) := by decide +kernel
theorem dX4_search_115 : decode cX4_search 115 = .ok (.iload 6, 2) := by decide +kernel
theorem dX4_search_117 : decode cX4_search 117 = .ok (.iaload, 1) := by decide +kernel
theorem dX4_search_118 : decode cX4_search 118 = .ok (.invokevirtual 68, 3) := by decide +kernel
theorem dX4_search_121 : decode cX4_search 121 = .ok (.if_icmp .gt 69, 3) := by decide +kernel
theorem dX4_search_124 : decode cX4_search 124 = .ok (.aload_n 0, 1) := by decide +kernel
theorem dX4_search_125 : decode cX4_search 125 = .ok (.getfield 24, 3) := by decide +kernel
theorem dX4_search_128 : decode cX4_search 128 = .ok (.iload 5, 2) := by decide +kernel
theorem dX4_search_130 : decode cX4_search 130 = .ok (.aload_n 0, 1) := by decide +kernel
theorem dX4_search_131 : decode cX4_search 131 = .ok (.getfield 31, 3) := by decide +kernel
theorem dX4_search_134 : decode cX4_search 134 = .ok (.iload 6, 2) := by decide +kernel
theorem dX4_search_136 : decode cX4_search 136 = .ok (.iaload, 1) := by decide +kernel
theorem dX4_search_137 : decode cX4_search 137 = .ok (.iload 7, 2) := by decide +kernel
theorem dX4_search_139 : decode cX4_search 139 = .ok (.ineg, 1) := by decide +kernel
theorem dX4_search_140 : decode cX4_search 140 = .ok (.invokevirtual 105, 3) := by decide +kernel
theorem dX4_search_143 : decode cX4_search 143 = .ok (.aload_n 0, 1) := by decide +kernel
theorem dX4_search_144 : decode cX4_search 144 = .ok (.getfield 40, 3) := by decide +kernel
theorem dX4_search_147 : decode cX4_search 147 = .ok (.iload_n 1, 1) := by decide +kernel
theorem dX4_search_148 : decode cX4_search 148 = .ok (.iload 6, 2) := by decide +kernel
theorem dX4_search_150 : decode cX4_search 150 = .ok (.iastore, 1) := by decide +kernel
theorem dX4_search_151 : decode cX4_search 151 = .ok (.aload_n 0, 1) := by decide +kernel
theorem dX4_search_152 : decode cX4_search 152 = .ok (.iload_n 1, 1) := by decide +kernel
theorem dX4_search_153 : decode cX4_search 153 = .ok (.iconst 1, 1) := by decide +kernel
theorem dX4_search_154 : decode cX4_search 154 = .ok (.iadd, 1) := by decide +kernel
theorem dX4_search_155 : decode cX4_search 155 = .ok (.iload_n 2, 1) := by decide +kernel
theorem dX4_search_156 : decode cX4_search 156 = .ok (.iconst 1, 1) := by decide +kernel
theorem dX4_search_157 : decode cX4_search 157 = .ok (.iload 6, 2) := by decide +kernel
theorem dX4_search_159 : decode cX4_search 159 = .ok (.ishl, 1) := by decide +kernel
theorem dX4_search_160 : decode cX4_search 160 = .ok (.ior, 1) := by decide +kernel
theorem dX4_search_161 : decode cX4_search 161 = .ok (.iload_n 3, 1) := by decide +kernel
theorem dX4_search_162 : decode cX4_search 162 = .ok (.iconst 1, 1) := by decide +kernel
theorem dX4_search_163 : decode cX4_search 163 = .ok (.iadd, 1) := by decide +kernel
theorem dX4_search_164 : decode cX4_search 164 = .ok (.iload 4, 2) := by decide +kernel
theorem dX4_search_166 : decode cX4_search 166 = .ok (.iload 7, 2) := by decide +kernel
theorem dX4_search_168 : decode cX4_search 168 = .ok (.iadd, 1) := by decide +kernel
theorem dX4_search_169 : decode cX4_search 169 = .ok (.invokestatic 84, 3) := by decide +kernel
theorem dX4_search_172 : decode cX4_search 172 = .ok (.aload_n 0, 1) := by decide +kernel
theorem dX4_search_173 : decode cX4_search 173 = .ok (.getfield 24, 3) := by decide +kernel
theorem dX4_search_176 : decode cX4_search 176 = .ok (.iload 5, 2) := by decide +kernel
theorem dX4_search_178 : decode cX4_search 178 = .ok (.aload_n 0, 1) := by decide +kernel
theorem dX4_search_179 : decode cX4_search 179 = .ok (.getfield 31, 3) := by decide +kernel
theorem dX4_search_182 : decode cX4_search 182 = .ok (.iload 6, 2) := by decide +kernel
theorem dX4_search_184 : decode cX4_search 184 = .ok (.iaload, 1) := by decide +kernel
theorem dX4_search_185 : decode cX4_search 185 = .ok (.iload 7, 2) := by decide +kernel
theorem dX4_search_187 : decode cX4_search 187 = .ok (.invokevirtual 105, 3) := by decide +kernel
theorem dX4_search_190 : decode cX4_search 190 = .ok (.iinc 6 1, 3) := by decide +kernel
theorem dX4_search_193 : decode cX4_search 193 = .ok (.goto (-137), 3) := by decide +kernel
theorem dX4_search_196 : decode cX4_search 196 = .ok (.aload_n 0, 1) := by decide +kernel
theorem dX4_search_197 : decode cX4_search 197 = .ok (.getfield 40, 3) := by decide +kernel
theorem dX4_search_200 : decode cX4_search 200 = .ok (.iload_n 1, 1) := by decide +kernel
theorem dX4_search_201 : decode cX4_search 201 = .ok (.iconst (-1), 1) := by decide +kernel
theorem dX4_search_202 : decode cX4_search 202 = .ok (.iastore, 1) := by decide +kernel
theorem dX4_search_203 : decode cX4_search 203 = .ok (.aload_n 0, 1) := by decide +kernel
theorem dX4_search_204 : decode cX4_search 204 = .ok (.iload_n 1, 1) := by decide +kernel
theorem dX4_search_205 : decode cX4_search 205 = .ok (.iconst 1, 1) := by decide +kernel
theorem dX4_search_206 : decode cX4_search 206 = .ok (.iadd, 1) := by decide +kernel
theorem dX4_search_207 : decode cX4_search 207 = .ok (.iload_n 2, 1) := by decide +kernel
theorem dX4_search_208 : decode cX4_search 208 = .ok (.iload_n 3, 1) := by decide +kernel
theorem dX4_search_209 : decode cX4_search 209 = .ok (.iload 4, 2) := by decide +kernel
theorem dX4_search_211 : decode cX4_search 211 = .ok (.invokestatic 84, 3) := by decide +kernel
theorem dX4_search_214 : decode cX4_search 214 = .ok (.return_, 1) := by decide +kernel
theorem dX4_isNoBetter_0 : decode cX4_isNoBetter 0 = .ok (.iload_n 1, 1) := by decide +kernel
theorem dX4_isNoBetter_1 : decode cX4_isNoBetter 1 = .ok (.aload_n 0, 1) := by decide +kernel
theorem dX4_isNoBetter_2 : decode cX4_isNoBetter 2 = .ok (.getfield 78, 3) := by decide +kernel
theorem dX4_isNoBetter_5 : decode cX4_isNoBetter 5 = .ok (.if_icmp .lt 19, 3) := by decide +kernel
theorem dX4_isNoBetter_8 : decode cX4_isNoBetter 8 = .ok (.iload_n 1, 1) := by decide +kernel
theorem dX4_isNoBetter_9 : decode cX4_isNoBetter 9 = .ok (.aload_n 0, 1) := by decide +kernel
theorem dX4_isNoBetter_10 : decode cX4_isNoBetter 10 = .ok (.getfield 78, 3) := by decide +kernel
theorem dX4_isNoBetter_13 : decode cX4_isNoBetter 13 = .ok (.if_icmp .ne 15, 3) := by decide +kernel
theorem dX4_isNoBetter_16 : decode cX4_isNoBetter 16 = .ok (.iload_n 2, 1) := by decide +kernel
theorem dX4_isNoBetter_17 : decode cX4_isNoBetter 17 = .ok (.aload_n 0, 1) := by decide +kernel
theorem dX4_isNoBetter_18 : decode cX4_isNoBetter 18 = .ok (.getfield 81, 3) := by decide +kernel
theorem dX4_isNoBetter_21 : decode cX4_isNoBetter 21 = .ok (.if_icmp .lt 7, 3) := by decide +kernel
theorem dX4_isNoBetter_24 : decode cX4_isNoBetter 24 = .ok (.iconst 1, 1) := by decide +kernel
theorem dX4_isNoBetter_25 : decode cX4_isNoBetter 25 = .ok (.goto 4, 3) := by decide +kernel
theorem dX4_isNoBetter_28 : decode cX4_isNoBetter 28 = .ok (.iconst 0, 1) := by decide +kernel
theorem dX4_isNoBetter_29 : decode cX4_isNoBetter 29 = .ok (.ireturn, 1) := by decide +kernel
theorem dX4_keepIfBetter_0 : decode cX4_keepIfBetter 0 = .ok (.aload_n 0, 1) := by decide +kernel
theorem dX4_keepIfBetter_1 : decode cX4_keepIfBetter 1 = .ok (.iload_n 1, 1) := by decide +kernel
theorem dX4_keepIfBetter_2 : decode cX4_keepIfBetter 2 = .ok (.iload_n 2, 1) := by decide +kernel
theorem dX4_keepIfBetter_3 : decode cX4_keepIfBetter 3 = .ok (.invokevirtual 101, 3) := by decide +kernel
theorem dX4_keepIfBetter_6 : decode cX4_keepIfBetter 6 = .ok (.ifCond .eq 4, 3) := by decide +kernel
theorem dX4_keepIfBetter_9 : decode cX4_keepIfBetter 9 = .ok (.return_, 1) := by decide +kernel
theorem dX4_keepIfBetter_10 : decode cX4_keepIfBetter 10 = .ok (.aload_n 0, 1) := by decide +kernel
theorem dX4_keepIfBetter_11 : decode cX4_keepIfBetter 11 = .ok (.iload_n 1, 1) := by decide +kernel
theorem dX4_keepIfBetter_12 : decode cX4_keepIfBetter 12 = .ok (.putfield 78, 3) := by decide +kernel
theorem dX4_keepIfBetter_15 : decode cX4_keepIfBetter 15 = .ok (.aload_n 0, 1) := by decide +kernel
theorem dX4_keepIfBetter_16 : decode cX4_keepIfBetter 16 = .ok (.iload_n 2, 1) := by decide +kernel
theorem dX4_keepIfBetter_17 : decode cX4_keepIfBetter 17 = .ok (.putfield 81, 3) := by decide +kernel
theorem dX4_keepIfBetter_20 : decode cX4_keepIfBetter 20 = .ok (.iconst 0, 1) := by decide +kernel
theorem dX4_keepIfBetter_21 : decode cX4_keepIfBetter 21 = .ok (.istore_n 3, 1) := by decide +kernel
theorem dX4_keepIfBetter_22 : decode cX4_keepIfBetter 22 = .ok (.iload_n 3, 1) := by decide +kernel
theorem dX4_keepIfBetter_23 : decode cX4_keepIfBetter 23 = .ok (.aload_n 0, 1) := by decide +kernel
theorem dX4_keepIfBetter_24 : decode cX4_keepIfBetter 24 = .ok (.getfield 61, 3) := by decide +kernel
theorem dX4_keepIfBetter_27 : decode cX4_keepIfBetter 27 = .ok (.if_icmp .ge 21, 3) := by decide +kernel
theorem dX4_keepIfBetter_30 : decode cX4_keepIfBetter 30 = .ok (.aload_n 0, 1) := by decide +kernel
theorem dX4_keepIfBetter_31 : decode cX4_keepIfBetter 31 = .ok (.getfield 43, 3) := by decide +kernel
theorem dX4_keepIfBetter_34 : decode cX4_keepIfBetter 34 = .ok (.iload_n 3, 1) := by decide +kernel
theorem dX4_keepIfBetter_35 : decode cX4_keepIfBetter 35 = .ok (.aload_n 0, 1) := by decide +kernel
theorem dX4_keepIfBetter_36 : decode cX4_keepIfBetter 36 = .ok (.getfield 40, 3) := by decide +kernel
theorem dX4_keepIfBetter_39 : decode cX4_keepIfBetter 39 = .ok (.iload_n 3, 1) := by decide +kernel
theorem dX4_keepIfBetter_40 : decode cX4_keepIfBetter 40 = .ok (.iaload, 1) := by decide +kernel
theorem dX4_keepIfBetter_41 : decode cX4_keepIfBetter 41 = .ok (.iastore, 1) := by decide +kernel
theorem dX4_keepIfBetter_42 : decode cX4_keepIfBetter 42 = .ok (.iinc 3 1, 3) := by decide +kernel
theorem dX4_keepIfBetter_45 : decode cX4_keepIfBetter 45 = .ok (.goto (-23), 3) := by decide +kernel
theorem dX4_keepIfBetter_48 : decode cX4_keepIfBetter 48 = .ok (.return_, 1) := by decide +kernel
theorem dX5_init_0 : decode cX5_init 0 = .ok (.aload_n 0, 1) := by decide +kernel
theorem dX5_init_1 : decode cX5_init 1 = .ok (.invokespecial 3, 3) := by decide +kernel
theorem dX5_init_4 : decode cX5_init 4 = .ok (.aload_n 0, 1) := by decide +kernel
theorem dX5_init_5 : decode cX5_init 5 = .ok (.new 9, 3) := by decide +kernel
theorem dX5_init_8 : decode cX5_init 8 = .ok (.dup, 1) := by decide +kernel
theorem dX5_init_9 : decode cX5_init 9 = .ok (.invokespecial 11, 3) := by decide +kernel
theorem dX5_init_12 : decode cX5_init 12 = .ok (.putfield 12, 3) := by decide +kernel
theorem dX5_init_15 : decode cX5_init 15 = .ok (.aload_n 0, 1) := by decide +kernel
theorem dX5_init_16 : decode cX5_init 16 = .ok (.new 18, 3) := by decide +kernel
theorem dX5_init_19 : decode cX5_init 19 = .ok (.dup, 1) := by decide +kernel
theorem dX5_init_20 : decode cX5_init 20 = .ok (.invokespecial 20, 3) := by decide +kernel
theorem dX5_init_23 : decode cX5_init 23 = .ok (.putfield 21, 3) := by decide +kernel
theorem dX5_init_26 : decode cX5_init 26 = .ok (.return_, 1) := by decide +kernel
theorem dX5_readStreet_0 : decode cX5_readStreet 0 = .ok (.aload_n 0, 1) := by decide +kernel
theorem dX5_readStreet_1 : decode cX5_readStreet 1 = .ok (.iconst (-1), 1) := by decide +kernel
theorem dX5_readStreet_2 : decode cX5_readStreet 2 = .ok (.putfield 25, 3) := by decide +kernel
theorem dX5_readStreet_5 : decode cX5_readStreet 5 = .ok (.aload_n 0, 1) := by decide +kernel
theorem dX5_readStreet_6 : decode cX5_readStreet 6 = .ok (.iconst 0, 1) := by decide +kernel
theorem dX5_readStreet_7 : decode cX5_readStreet 7 = .ok (.putfield 29, 3) := by decide +kernel
theorem dX5_readStreet_10 : decode cX5_readStreet 10 = .ok (.aload_n 0, 1) := by decide +kernel
theorem dX5_readStreet_11 : decode cX5_readStreet 11 = .ok (.invokevirtual 32, 3) := by decide +kernel
theorem dX5_readStreet_14 : decode cX5_readStreet 14 = .ok (.aload_n 0, 1) := by decide +kernel
theorem dX5_readStreet_15 : decode cX5_readStreet 15 = .ok (.invokevirtual 35, 3) := by decide +kernel
theorem dX5_readStreet_18 : decode cX5_readStreet 18 = .ok (.iconst 1, 1) := by decide +kernel
theorem dX5_readStreet_19 : decode cX5_readStreet 19 = .ok (.istore_n 1, 1) := by decide +kernel
theorem dX5_readStreet_20 : decode cX5_readStreet 20 = .ok (.iload_n 1, 1) := by decide +kernel
theorem dX5_readStreet_21 : decode cX5_readStreet 21 = .ok (.sipush 250, 3) := by decide +kernel
theorem dX5_readStreet_24 : decode cX5_readStreet 24 = .ok (.if_icmp .gt 28, 3) := by decide +kernel
theorem dX5_readStreet_27 : decode cX5_readStreet 27 = .ok (.aload_n 0, 1) := by decide +kernel
theorem dX5_readStreet_28 : decode cX5_readStreet 28 = .ok (.getfield 25, 3) := by decide +kernel
theorem dX5_readStreet_31 : decode cX5_readStreet 31 = .ok (.iconst (-1), 1) := by decide +kernel
theorem dX5_readStreet_32 : decode cX5_readStreet 32 = .ok (.if_icmp .ne 20, 3) := by decide +kernel
theorem dX5_readStreet_35 : decode cX5_readStreet 35 = .ok (.aload_n 0, 1) := by decide +kernel
theorem dX5_readStreet_36 : decode cX5_readStreet 36 = .ok (.getfield 38, 3) := by decide +kernel
theorem dX5_readStreet_39 : decode cX5_readStreet 39 = .ok (.ifCond .eq 13, 3) := by decide +kernel
theorem dX5_readStreet_42 : decode cX5_readStreet 42 = .ok (.aload_n 0, 1) := by decide +kernel
theorem dX5_readStreet_43 : decode cX5_readStreet 43 = .ok (.invokevirtual 41, 3) := by decide +kernel
theorem dX5_readStreet_46 : decode cX5_readStreet 46 = .ok (.iinc 1 1, 3) := by decide +kernel
theorem dX5_readStreet_49 : decode cX5_readStreet 49 = .ok (.goto (-29), 3) := by decide +kernel
theorem dX5_readStreet_52 : decode cX5_readStreet 52 = .ok (.iload_n 1, 1) := by decide +kernel
theorem dX5_readStreet_53 : decode cX5_readStreet 53 = .ok (.ireturn, 1) := by decide +kernel
theorem dX5_readPeople_0 : decode cX5_readPeople 0 = .ok (.aload_n 0, 1) := by decide +kernel
theorem dX5_readPeople_1 : decode cX5_readPeople 1 = .ok (.ldc 44, 2) := by decide +kernel
theorem dX5_readPeople_3 : decode cX5_readPeople 3 = .ok (.invokevirtual 46, 3) := by decide +kernel
theorem dX5_readPeople_6 : decode cX5_readPeople 6 = .ok (.ifCond .ne 8, 3) := by decide +kernel
theorem dX5_readPeople_9 : decode cX5_readPeople 9 = .ok (.aload_n 0, 1) := by decide +kernel
theorem dX5_readPeople_10 : decode cX5_readPeople 10 = .ok (.invokevirtual 50, 3) := by decide +kernel
theorem dX5_readPeople_13 : decode cX5_readPeople 13 = .ok (.return_, 1) := by decide +kernel
theorem dX5_readPeople_14 : decode cX5_readPeople 14 = .ok (.aload_n 0, 1) := by decide +kernel
theorem dX5_readPeople_15 : decode cX5_readPeople 15 = .ok (.invokevirtual 32, 3) := by decide +kernel
theorem dX5_readPeople_18 : decode cX5_readPeople 18 = .ok (.aload_n 0, 1) := by decide +kernel
theorem dX5_readPeople_19 : decode cX5_readPeople 19 = .ok (.iconst 2, 1) := by decide +kernel
theorem dX5_readPeople_20 : decode cX5_readPeople 20 = .ok (.bipush 6, 2) := by decide +kernel
theorem dX5_readPeople_22 : decode cX5_readPeople 22 = .ok (.invokevirtual 53, 3) := by decide +kernel
theorem dX5_readPeople_25 : decode cX5_readPeople 25 = .ok (.istore_n 1, 1) := by decide +kernel
theorem dX5_readPeople_26 : decode cX5_readPeople 26 = .ok (.aload_n 0, 1) := by decide +kernel
theorem dX5_readPeople_27 : decode cX5_readPeople 27 = .ok (.invokevirtual 57, 3) := by decide +kernel
theorem dX5_readPeople_30 : decode cX5_readPeople 30 = .ok (.aload_n 0, 1) := by decide +kernel
theorem dX5_readPeople_31 : decode cX5_readPeople 31 = .ok (.getfield 25, 3) := by decide +kernel
theorem dX5_readPeople_34 : decode cX5_readPeople 34 = .ok (.iconst (-1), 1) := by decide +kernel
theorem dX5_readPeople_35 : decode cX5_readPeople 35 = .ok (.if_icmp .ne 18, 3) := by decide +kernel
theorem dX5_readPeople_38 : decode cX5_readPeople 38 = .ok (.aload_n 0, 1) := by decide +kernel
theorem dX5_readPeople_39 : decode cX5_readPeople 39 = .ok (.getfield 21, 3) := by decide +kernel
theorem dX5_readPeople_42 : decode cX5_readPeople 42 = .ok (.iload_n 1, 1) := by decide +kernel
theorem dX5_readPeople_43 : decode cX5_readPeople 43 = .ok (.invokevirtual 60, 3) := by decide +kernel
theorem dX5_readPeople_46 : decode cX5_readPeople 46 = .ok (.aload_n 0, 1) := by decide +kernel
theorem dX5_readPeople_47 : decode cX5_readPeople 47 = .ok (.iload_n 1, 1) := by decide +kernel
theorem dX5_readPeople_48 : decode cX5_readPeople 48 = .ok (.iconst 1, 1) := by decide +kernel
theorem dX5_readPeople_49 : decode cX5_readPeople 49 = .ok (.isub, 1) := by decide +kernel
theorem dX5_readPeople_50 : decode cX5_readPeople 50 = .ok (.putfield 64, 3) := by decide +kernel
theorem dX5_readPeople_53 : decode cX5_readPeople 53 = .ok (.return_, 1) := by decide +kernel
theorem dX5_readItem_0 : decode cX5_readItem 0 = .ok (.aload_n 0, 1) := by decide +kernel
theorem dX5_readItem_1 : decode cX5_readItem 1 = .ok (.ldc 67, 2) := by decide +kernel
theorem dX5_readItem_3 : decode cX5_readItem 3 = .ok (.invokevirtual 46, 3) := by decide +kernel
theorem dX5_readItem_6 : decode cX5_readItem 6 = .ok (.ifCond .eq 10, 3) := by decide +kernel
theorem dX5_readItem_9 : decode cX5_readItem 9 = .ok (.aload_n 0, 1) := by decide +kernel
theorem dX5_readItem_10 : decode cX5_readItem 10 = .ok (.invokevirtual 69, 3) := by decide +kernel
theorem dX5_readItem_13 : decode cX5_readItem 13 = .ok (.goto 65, 3) := by decide +kernel
theorem dX5_readItem_16 : decode cX5_readItem 16 = .ok (.aload_n 0, 1) := by decide +kernel
theorem dX5_readItem_17 : decode cX5_readItem 17 = .ok (.ldc 72, 2) := by decide +kernel
theorem dX5_readItem_19 : decode cX5_readItem 19 = .ok (.invokevirtual 46, 3) := by decide +kernel
theorem dX5_readItem_22 : decode cX5_readItem 22 = .ok (.ifCond .eq 23, 3) := by decide +kernel
theorem dX5_readItem_25 : decode cX5_readItem 25 = .ok (.aload_n 0, 1) := by decide +kernel
theorem dX5_readItem_26 : decode cX5_readItem 26 = .ok (.getfield 21, 3) := by decide +kernel
theorem dX5_readItem_29 : decode cX5_readItem 29 = .ok (.getfield 74, 3) := by decide +kernel
theorem dX5_readItem_32 : decode cX5_readItem 32 = .ok (.invokevirtual 78, 3) := by decide +kernel
theorem dX5_readItem_35 : decode cX5_readItem 35 = .ok (.ifCond .ne 10, 3) := by decide +kernel
theorem dX5_readItem_38 : decode cX5_readItem 38 = .ok (.aload_n 0, 1) := by decide +kernel
theorem dX5_readItem_39 : decode cX5_readItem 39 = .ok (.invokevirtual 84, 3) := by decide +kernel
theorem dX5_readItem_42 : decode cX5_readItem 42 = .ok (.goto 36, 3) := by decide +kernel
theorem dX5_readItem_45 : decode cX5_readItem 45 = .ok (.aload_n 0, 1) := by decide +kernel
theorem dX5_readItem_46 : decode cX5_readItem 46 = .ok (.ldc 87, 2) := by decide +kernel
theorem dX5_readItem_48 : decode cX5_readItem 48 = .ok (.invokevirtual 46, 3) := by decide +kernel
theorem dX5_readItem_51 : decode cX5_readItem 51 = .ok (.ifCond .eq 23, 3) := by decide +kernel
theorem dX5_readItem_54 : decode cX5_readItem 54 = .ok (.aload_n 0, 1) := by decide +kernel
theorem dX5_readItem_55 : decode cX5_readItem 55 = .ok (.getfield 21, 3) := by decide +kernel
theorem dX5_readItem_58 : decode cX5_readItem 58 = .ok (.getfield 89, 3) := by decide +kernel
theorem dX5_readItem_61 : decode cX5_readItem 61 = .ok (.invokevirtual 78, 3) := by decide +kernel
theorem dX5_readItem_64 : decode cX5_readItem 64 = .ok (.ifCond .ne 10, 3) := by decide +kernel
theorem dX5_readItem_67 : decode cX5_readItem 67 = .ok (.aload_n 0, 1) := by decide +kernel
theorem dX5_readItem_68 : decode cX5_readItem 68 = .ok (.invokevirtual 92, 3) := by decide +kernel
theorem dX5_readItem_71 : decode cX5_readItem 71 = .ok (.goto 7, 3) := by decide +kernel
theorem dX5_readItem_74 : decode cX5_readItem 74 = .ok (.aload_n 0, 1) := by decide +kernel
theorem dX5_readItem_75 : decode cX5_readItem 75 = .ok (.invokevirtual 50, 3) := by decide +kernel
theorem dX5_readItem_78 : decode cX5_readItem 78 = .ok (.return_, 1) := by decide +kernel
theorem dX5_readStrong_0 : decode cX5_readStrong 0 = .ok (.aload_n 0, 1) := by decide +kernel
theorem dX5_readStrong_1 : decode cX5_readStrong 1 = .ok (.invokevirtual 32, 3) := by decide +kernel
theorem dX5_readStrong_4 : decode cX5_readStrong 4 = .ok (.aload_n 0, 1) := by decide +kernel
theorem dX5_readStrong_5 : decode cX5_readStrong 5 = .ok (.iconst 0, 1) := by decide +kernel
theorem dX5_readStrong_6 : decode cX5_readStrong 6 = .ok (.aload_n 0, 1) := by decide +kernel
theorem dX5_readStrong_7 : decode cX5_readStrong 7 = .ok (.getfield 64, 3) := by decide +kernel
theorem dX5_readStrong_10 : decode cX5_readStrong 10 = .ok (.invokevirtual 53, 3) := by decide +kernel
theorem dX5_readStrong_13 : decode cX5_readStrong 13 = .ok (.istore_n 1, 1) := by decide +kernel
theorem dX5_readStrong_14 : decode cX5_readStrong 14 = .ok (.aload_n 0, 1) := by decide +kernel
theorem dX5_readStrong_15 : decode cX5_readStrong 15 = .ok (.iconst 0, 1) := by decide +kernel
theorem dX5_readStrong_16 : decode cX5_readStrong 16 = .ok (.bipush 99, 2) := by decide +kernel
theorem dX5_readStrong_18 : decode cX5_readStrong 18 = .ok (.invokevirtual 53, 3) := by decide +kernel
theorem dX5_readStrong_21 : decode cX5_readStrong 21 = .ok (.istore_n 2, 1) := by decide +kernel
theorem dX5_readStrong_22 : decode cX5_readStrong 22 = .ok (.aload_n 0, 1) := by decide +kernel
theorem dX5_readStrong_23 : decode cX5_readStrong 23 = .ok (.invokevirtual 57, 3) := by decide +kernel
theorem dX5_readStrong_26 : decode cX5_readStrong 26 = .ok (.aload_n 0, 1) := by decide +kernel
theorem dX5_readStrong_27 : decode cX5_readStrong 27 = .ok (.getfield 25, 3) := by decide +kernel
theorem dX5_readStrong_30 : decode cX5_readStrong 30 = .ok (.iconst (-1), 1) := by decide +kernel
theorem dX5_readStrong_31 : decode cX5_readStrong 31 = .ok (.if_icmp .ne 16, 3) := by decide +kernel
theorem dX5_readStrong_34 : decode cX5_readStrong 34 = .ok (.aload_n 0, 1) := by decide +kernel
theorem dX5_readStrong_35 : decode cX5_readStrong 35 = .ok (.getfield 21, 3) := by decide +kernel
theorem dX5_readStrong_38 : decode cX5_readStrong 38 = .ok (.getfield 95, 3) := by decide +kernel
theorem dX5_readStrong_41 : decode cX5_readStrong 41 = .ok (.iload_n 1, 1) := by decide +kernel
theorem dX5_readStrong_42 : decode cX5_readStrong 42 = .ok (.iconst 0, 1) := by decide +kernel
theorem dX5_readStrong_43 : decode cX5_readStrong 43 = .ok (.iload_n 2, 1) := by decide +kernel
theorem dX5_readStrong_44 : decode cX5_readStrong 44 = .ok (.invokevirtual 97, 3) := by decide +kernel
theorem dX5_readStrong_47 : decode cX5_readStrong 47 = .ok (.return_, 1) := by decide +kernel
theorem dX5_readFavour_0 : decode cX5_readFavour 0 = .ok (.aload_n 0, 1) := by decide +kernel
theorem dX5_readFavour_1 : decode cX5_readFavour 1 = .ok (.invokevirtual 32, 3) := by decide +kernel
theorem dX5_readFavour_4 : decode cX5_readFavour 4 = .ok (.aload_n 0, 1) := by decide +kernel
theorem dX5_readFavour_5 : decode cX5_readFavour 5 = .ok (.iconst 0, 1) := by decide +kernel
theorem dX5_readFavour_6 : decode cX5_readFavour 6 = .ok (.iconst 4, 1) := by decide +kernel
theorem dX5_readFavour_7 : decode cX5_readFavour 7 = .ok (.invokevirtual 53, 3) := by decide +kernel
theorem dX5_readFavour_10 : decode cX5_readFavour 10 = .ok (.istore_n 1, 1) := by decide +kernel
theorem dX5_readFavour_11 : decode cX5_readFavour 11 = .ok (.aload_n 0, 1) := by decide +kernel
theorem dX5_readFavour_12 : decode cX5_readFavour 12 = .ok (.iconst 0, 1) := by decide +kernel
theorem dX5_readFavour_13 : decode cX5_readFavour 13 = .ok (.aload_n 0, 1) := by decide +kernel
theorem dX5_readFavour_14 : decode cX5_readFavour 14 = .ok (.getfield 64, 3) := by decide +kernel
theorem dX5_readFavour_17 : decode cX5_readFavour 17 = .ok (.invokevirtual 53, 3) := by decide +kernel
theorem dX5_readFavour_20 : decode cX5_readFavour 20 = .ok (.istore_n 2, 1) := by decide +kernel
theorem dX5_readFavour_21 : decode cX5_readFavour 21 = .ok (.aload_n 0, 1) := by decide +kernel
theorem dX5_readFavour_22 : decode cX5_readFavour 22 = .ok (.iload_n 2, 1) := by decide +kernel
theorem dX5_readFavour_23 : decode cX5_readFavour 23 = .ok (.invokevirtual 101, 3) := by decide +kernel
theorem dX5_readFavour_26 : decode cX5_readFavour 26 = .ok (.aload_n 0, 1) := by decide +kernel
theorem dX5_readFavour_27 : decode cX5_readFavour 27 = .ok (.iconst 0, 1) := by decide +kernel
theorem dX5_readFavour_28 : decode cX5_readFavour 28 = .ok (.aload_n 0, 1) := by decide +kernel
theorem dX5_readFavour_29 : decode cX5_readFavour 29 = .ok (.getfield 64, 3) := by decide +kernel
theorem dX5_readFavour_32 : decode cX5_readFavour 32 = .ok (.invokevirtual 53, 3) := by decide +kernel
theorem dX5_readFavour_35 : decode cX5_readFavour 35 = .ok (.istore_n 3, 1) := by decide +kernel
theorem dX5_readFavour_36 : decode cX5_readFavour 36 = .ok (.aload_n 0, 1) := by decide +kernel
theorem dX5_readFavour_37 : decode cX5_readFavour 37 = .ok (.iconst 0, 1) := by decide +kernel
theorem dX5_readFavour_38 : decode cX5_readFavour 38 = .ok (.iconst 3, 1) := by decide +kernel
theorem dX5_readFavour_39 : decode cX5_readFavour 39 = .ok (.invokevirtual 53, 3) := by decide +kernel
theorem dX5_readFavour_42 : decode cX5_readFavour 42 = .ok (.istore 4, 2) := by decide +kernel
theorem dX5_readFavour_44 : decode cX5_readFavour 44 = .ok (.aload_n 0, 1) := by decide +kernel
theorem dX5_readFavour_45 : decode cX5_readFavour 45 = .ok (.iconst 1, 1) := by decide +kernel
theorem dX5_readFavour_46 : decode cX5_readFavour 46 = .ok (.bipush 40, 2) := by decide +kernel
theorem dX5_readFavour_48 : decode cX5_readFavour 48 = .ok (.invokevirtual 53, 3) := by decide +kernel
theorem dX5_readFavour_51 : decode cX5_readFavour 51 = .ok (.istore 5, 2) := by decide +kernel
theorem dX5_readFavour_53 : decode cX5_readFavour 53 = .ok (.aload_n 0, 1) := by decide +kernel
theorem dX5_readFavour_54 : decode cX5_readFavour 54 = .ok (.iconst 0, 1) := by decide +kernel
theorem dX5_readFavour_55 : decode cX5_readFavour 55 = .ok (.bipush 99, 2) := by decide +kernel
theorem dX5_readFavour_57 : decode cX5_readFavour 57 = .ok (.invokevirtual 53, 3) := by decide +kernel
theorem dX5_readFavour_60 : decode cX5_readFavour 60 = .ok (.istore 6, 2) := by decide +kernel
theorem dX5_readFavour_62 : decode cX5_readFavour 62 = .ok (.aload_n 0, 1) := by decide +kernel
theorem dX5_readFavour_63 : decode cX5_readFavour 63 = .ok (.invokevirtual 57, 3) := by decide +kernel
theorem dX5_readFavour_66 : decode cX5_readFavour 66 = .ok (.aload_n 0, 1) := by decide +kernel
theorem dX5_readFavour_67 : decode cX5_readFavour 67 = .ok (.getfield 25, 3) := by decide +kernel
theorem dX5_readFavour_70 : decode cX5_readFavour 70 = .ok (.iconst (-1), 1) := by decide +kernel
theorem dX5_readFavour_71 : decode cX5_readFavour 71 = .ok (.if_icmp .ne 20, 3) := by decide +kernel
theorem dX5_readFavour_74 : decode cX5_readFavour 74 = .ok (.aload_n 0, 1) := by decide +kernel
theorem dX5_readFavour_75 : decode cX5_readFavour 75 = .ok (.getfield 21, 3) := by decide +kernel
theorem dX5_readFavour_78 : decode cX5_readFavour 78 = .ok (.iload_n 1, 1) := by decide +kernel
theorem dX5_readFavour_79 : decode cX5_readFavour 79 = .ok (.iload_n 2, 1) := by decide +kernel
theorem dX5_readFavour_80 : decode cX5_readFavour 80 = .ok (.iload_n 3, 1) := by decide +kernel
theorem dX5_readFavour_81 : decode cX5_readFavour 81 = .ok (.iload 4, 2) := by decide +kernel
theorem dX5_readFavour_83 : decode cX5_readFavour 83 = .ok (.iload 5, 2) := by decide +kernel
theorem dX5_readFavour_85 : decode cX5_readFavour 85 = .ok (.iload 6, 2) := by decide +kernel
theorem dX5_readFavour_87 : decode cX5_readFavour 87 = .ok (.invokevirtual 104, 3) := by decide +kernel
theorem dX5_readFavour_90 : decode cX5_readFavour 90 = .ok (.pop, 1) := by decide +kernel
theorem dX5_readFavour_91 : decode cX5_readFavour 91 = .ok (.return_, 1) := by decide +kernel
theorem dX5_readNeed_0 : decode cX5_readNeed 0 = .ok (.aload_n 0, 1) := by decide +kernel
theorem dX5_readNeed_1 : decode cX5_readNeed 1 = .ok (.invokevirtual 32, 3) := by decide +kernel
theorem dX5_readNeed_4 : decode cX5_readNeed 4 = .ok (.aload_n 0, 1) := by decide +kernel
theorem dX5_readNeed_5 : decode cX5_readNeed 5 = .ok (.iconst 0, 1) := by decide +kernel
theorem dX5_readNeed_6 : decode cX5_readNeed 6 = .ok (.aload_n 0, 1) := by decide +kernel
theorem dX5_readNeed_7 : decode cX5_readNeed 7 = .ok (.getfield 64, 3) := by decide +kernel
theorem dX5_readNeed_10 : decode cX5_readNeed 10 = .ok (.invokevirtual 53, 3) := by decide +kernel
theorem dX5_readNeed_13 : decode cX5_readNeed 13 = .ok (.istore_n 1, 1) := by decide +kernel
theorem dX5_readNeed_14 : decode cX5_readNeed 14 = .ok (.aload_n 0, 1) := by decide +kernel
theorem dX5_readNeed_15 : decode cX5_readNeed 15 = .ok (.iconst 0, 1) := by decide +kernel
theorem dX5_readNeed_16 : decode cX5_readNeed 16 = .ok (.iconst 3, 1) := by decide +kernel
theorem dX5_readNeed_17 : decode cX5_readNeed 17 = .ok (.invokevirtual 53, 3) := by decide +kernel
theorem dX5_readNeed_20 : decode cX5_readNeed 20 = .ok (.istore_n 2, 1) := by decide +kernel
theorem dX5_readNeed_21 : decode cX5_readNeed 21 = .ok (.aload_n 0, 1) := by decide +kernel
theorem dX5_readNeed_22 : decode cX5_readNeed 22 = .ok (.iconst 1, 1) := by decide +kernel
theorem dX5_readNeed_23 : decode cX5_readNeed 23 = .ok (.bipush 40, 2) := by decide +kernel
theorem dX5_readNeed_25 : decode cX5_readNeed 25 = .ok (.invokevirtual 53, 3) := by decide +kernel
theorem dX5_readNeed_28 : decode cX5_readNeed 28 = .ok (.istore_n 3, 1) := by decide +kernel
theorem dX5_readNeed_29 : decode cX5_readNeed 29 = .ok (.aload_n 0, 1) := by decide +kernel
theorem dX5_readNeed_30 : decode cX5_readNeed 30 = .ok (.iconst 0, 1) := by decide +kernel
theorem dX5_readNeed_31 : decode cX5_readNeed 31 = .ok (.bipush 99, 2) := by decide +kernel
theorem dX5_readNeed_33 : decode cX5_readNeed 33 = .ok (.invokevirtual 53, 3) := by decide +kernel
theorem dX5_readNeed_36 : decode cX5_readNeed 36 = .ok (.istore 4, 2) := by decide +kernel
theorem dX5_readNeed_38 : decode cX5_readNeed 38 = .ok (.aload_n 0, 1) := by decide +kernel
theorem dX5_readNeed_39 : decode cX5_readNeed 39 = .ok (.invokevirtual 57, 3) := by decide +kernel
theorem dX5_readNeed_42 : decode cX5_readNeed 42 = .ok (.aload_n 0, 1) := by decide +kernel
theorem dX5_readNeed_43 : decode cX5_readNeed 43 = .ok (.getfield 25, 3) := by decide +kernel
theorem dX5_readNeed_46 : decode cX5_readNeed 46 = .ok (.iconst (-1), 1) := by decide +kernel
theorem dX5_readNeed_47 : decode cX5_readNeed 47 = .ok (.if_icmp .ne 16, 3) := by decide +kernel
theorem dX5_readNeed_50 : decode cX5_readNeed 50 = .ok (.aload_n 0, 1) := by decide +kernel
theorem dX5_readNeed_51 : decode cX5_readNeed 51 = .ok (.getfield 21, 3) := by decide +kernel
theorem dX5_readNeed_54 : decode cX5_readNeed 54 = .ok (.iload_n 1, 1) := by decide +kernel
theorem dX5_readNeed_55 : decode cX5_readNeed 55 = .ok (.iload_n 2, 1) := by decide +kernel
theorem dX5_readNeed_56 : decode cX5_readNeed 56 = .ok (.iload_n 3, 1) := by decide +kernel
theorem dX5_readNeed_57 : decode cX5_readNeed 57 = .ok (.iload 4, 2) := by decide +kernel
theorem dX5_readNeed_59 : decode cX5_readNeed 59 = .ok (.invokevirtual 108, 3) := by decide +kernel
theorem dX5_readNeed_62 : decode cX5_readNeed 62 = .ok (.pop, 1) := by decide +kernel
theorem dX5_readNeed_63 : decode cX5_readNeed 63 = .ok (.return_, 1) := by decide +kernel
theorem dX5_refuse_0 : decode cX5_refuse 0 = .ok (.aload_n 0, 1) := by decide +kernel
theorem dX5_refuse_1 : decode cX5_refuse 1 = .ok (.getfield 38, 3) := by decide +kernel
theorem dX5_refuse_4 : decode cX5_refuse 4 = .ok (.iconst 2, 1) := by decide +kernel
theorem dX5_refuse_5 : decode cX5_refuse 5 = .ok (.if_icmp .ne 15, 3) := by decide +kernel
theorem dX5_refuse_8 : decode cX5_refuse 8 = .ok (.aload_n 0, 1) := by decide +kernel
theorem dX5_refuse_9 : decode cX5_refuse 9 = .ok (.getfield 112, 3) := by decide +kernel
theorem dX5_refuse_12 : decode cX5_refuse 12 = .ok (.iload_n 1, 1) := by decide +kernel
theorem dX5_refuse_13 : decode cX5_refuse 13 = .ok (.if_icmp .ne 7, 3) := by decide +kernel
theorem dX5_refuse_16 : decode cX5_refuse 16 = .ok (.aload_n 0, 1) := by decide +kernel
theorem dX5_refuse_17 : decode cX5_refuse 17 = .ok (.invokevirtual 50, 3) := by decide +kernel
theorem dX5_refuse_20 : decode cX5_refuse 20 = .ok (.return_, 1) := by decide +kernel
theorem dX5_takeNumber_0 : decode cX5_takeNumber 0 = .ok (.aload_n 0, 1) := by decide +kernel
theorem dX5_takeNumber_1 : decode cX5_takeNumber 1 = .ok (.getfield 25, 3) := by decide +kernel
theorem dX5_takeNumber_4 : decode cX5_takeNumber 4 = .ok (.iconst (-1), 1) := by decide +kernel
theorem dX5_takeNumber_5 : decode cX5_takeNumber 5 = .ok (.if_icmp .ne 27, 3) := by decide +kernel
theorem dX5_takeNumber_8 : decode cX5_takeNumber 8 = .ok (.aload_n 0, 1) := by decide +kernel
theorem dX5_takeNumber_9 : decode cX5_takeNumber 9 = .ok (.getfield 38, 3) := by decide +kernel
theorem dX5_takeNumber_12 : decode cX5_takeNumber 12 = .ok (.iconst 2, 1) := by decide +kernel
theorem dX5_takeNumber_13 : decode cX5_takeNumber 13 = .ok (.if_icmp .ne 19, 3) := by decide +kernel
theorem dX5_takeNumber_16 : decode cX5_takeNumber 16 = .ok (.aload_n 0, 1) := by decide +kernel
theorem dX5_takeNumber_17 : decode cX5_takeNumber 17 = .ok (.getfield 112, 3) := by decide +kernel
theorem dX5_takeNumber_20 : decode cX5_takeNumber 20 = .ok (.iload_n 1, 1) := by decide +kernel
theorem dX5_takeNumber_21 : decode cX5_takeNumber 21 = .ok (.if_icmp .lt 11, 3) := by decide +kernel
theorem dX5_takeNumber_24 : decode cX5_takeNumber 24 = .ok (.aload_n 0, 1) := by decide +kernel
theorem dX5_takeNumber_25 : decode cX5_takeNumber 25 = .ok (.getfield 112, 3) := by decide +kernel
theorem dX5_takeNumber_28 : decode cX5_takeNumber 28 = .ok (.iload_n 2, 1) := by decide +kernel
theorem dX5_takeNumber_29 : decode cX5_takeNumber 29 = .ok (.if_icmp .le 9, 3) := by decide +kernel
theorem dX5_takeNumber_32 : decode cX5_takeNumber 32 = .ok (.aload_n 0, 1) := by decide +kernel
theorem dX5_takeNumber_33 : decode cX5_takeNumber 33 = .ok (.invokevirtual 50, 3) := by decide +kernel
theorem dX5_takeNumber_36 : decode cX5_takeNumber 36 = .ok (.iload_n 1, 1) := by decide +kernel
theorem dX5_takeNumber_37 : decode cX5_takeNumber 37 = .ok (.ireturn, 1) := by decide +kernel
theorem dX5_takeNumber_38 : decode cX5_takeNumber 38 = .ok (.aload_n 0, 1) := by decide +kernel
theorem dX5_takeNumber_39 : decode cX5_takeNumber 39 = .ok (.getfield 112, 3) := by decide +kernel
theorem dX5_takeNumber_42 : decode cX5_takeNumber 42 = .ok (.istore_n 3, 1) := by decide +kernel
theorem dX5_takeNumber_43 : decode cX5_takeNumber 43 = .ok (.aload_n 0, 1) := by decide +kernel
theorem dX5_takeNumber_44 : decode cX5_takeNumber 44 = .ok (.invokevirtual 32, 3) := by decide +kernel
theorem dX5_takeNumber_47 : decode cX5_takeNumber 47 = .ok (.iload_n 3, 1) := by decide +kernel
theorem dX5_takeNumber_48 : decode cX5_takeNumber 48 = .ok (.ireturn, 1) := by decide +kernel
theorem dX5_takeStop_0 : decode cX5_takeStop 0 = .ok (.aload_n 0, 1) := by decide +kernel
theorem dX5_takeStop_1 : decode cX5_takeStop 1 = .ok (.getfield 25, 3) := by decide +kernel
theorem dX5_takeStop_4 : decode cX5_takeStop 4 = .ok (.iconst (-1), 1) := by decide +kernel
theorem dX5_takeStop_5 : decode cX5_takeStop 5 = .ok (.if_icmp .ne 11, 3) := by decide +kernel
theorem dX5_takeStop_8 : decode cX5_takeStop 8 = .ok (.aload_n 0, 1) := by decide +kernel
theorem dX5_takeStop_9 : decode cX5_takeStop 9 = .ok (.getfield 38, 3) := by decide +kernel
theorem dX5_takeStop_12 : decode cX5_takeStop 12 = .ok (.iconst 3, 1) := by decide +kernel
theorem dX5_takeStop_13 : decode cX5_takeStop 13 = .ok (.if_icmp .eq 8, 3) := by decide +kernel
theorem dX5_takeStop_16 : decode cX5_takeStop 16 = .ok (.aload_n 0, 1) := by decide +kernel
theorem dX5_takeStop_17 : decode cX5_takeStop 17 = .ok (.invokevirtual 50, 3) := by decide +kernel
theorem dX5_takeStop_20 : decode cX5_takeStop 20 = .ok (.return_, 1) := by decide +kernel
theorem dX5_takeStop_21 : decode cX5_takeStop 21 = .ok (.aload_n 0, 1) := by decide +kernel
theorem dX5_takeStop_22 : decode cX5_takeStop 22 = .ok (.invokevirtual 32, 3) := by decide +kernel
theorem dX5_takeStop_25 : decode cX5_takeStop 25 = .ok (.return_, 1) := by decide +kernel
theorem dX5_fail_0 : decode cX5_fail 0 = .ok (.aload_n 0, 1) := by decide +kernel
theorem dX5_fail_1 : decode cX5_fail 1 = .ok (.getfield 25, 3) := by decide +kernel
theorem dX5_fail_4 : decode cX5_fail 4 = .ok (.iconst (-1), 1) := by decide +kernel
theorem dX5_fail_5 : decode cX5_fail 5 = .ok (.if_icmp .ne 11, 3) := by decide +kernel
theorem dX5_fail_8 : decode cX5_fail 8 = .ok (.aload_n 0, 1) := by decide +kernel
theorem dX5_fail_9 : decode cX5_fail 9 = .ok (.aload_n 0, 1) := by decide +kernel
theorem dX5_fail_10 : decode cX5_fail 10 = .ok (.getfield 115, 3) := by decide +kernel
theorem dX5_fail_13 : decode cX5_fail 13 = .ok (.putfield 25, 3) := by decide +kernel
theorem dX5_fail_16 : decode cX5_fail 16 = .ok (.return_, 1) := by decide +kernel
theorem dX5_step_0 : decode cX5_step 0 = .ok (.aload_n 0, 1) := by decide +kernel
theorem dX5_step_1 : decode cX5_step 1 = .ok (.aload_n 0, 1) := by decide +kernel
theorem dX5_step_2 : decode cX5_step 2 = .ok (.getfield 29, 3) := by decide +kernel
theorem dX5_step_5 : decode cX5_step 5 = .ok (.putfield 115, 3) := by decide +kernel
theorem dX5_step_8 : decode cX5_step 8 = .ok (.aload_n 0, 1) := by decide +kernel
theorem dX5_step_9 : decode cX5_step 9 = .ok (.getfield 115, 3) := by decide +kernel
theorem dX5_step_12 : decode cX5_step 12 = .ok (.aload_n 0, 1) := by decide +kernel
theorem dX5_step_13 : decode cX5_step 13 = .ok (.getfield 12, 3) := by decide +kernel
theorem dX5_step_16 : decode cX5_step 16 = .ok (.getfield 118, 3) := by decide +kernel
theorem dX5_step_19 : decode cX5_step 19 = .ok (.if_icmp .ge 32, 3) := by decide +kernel
theorem dX5_step_22 : decode cX5_step 22 = .ok (.aload_n 0, 1) := by decide +kernel
theorem dX5_step_23 : decode cX5_step 23 = .ok (.getfield 12, 3) := by decide +kernel
theorem dX5_step_26 : decode cX5_step 26 = .ok (.aload_n 0, 1) := by decide +kernel
theorem dX5_step_27 : decode cX5_step 27 = .ok (.getfield 115, 3) := by decide +kernel
theorem dX5_step_30 : decode cX5_step 30 = .ok (.invokevirtual 121, 3) := by decide +kernel
theorem dX5_step_33 : decode cX5_step 33 = .ok (.bipush 32, 2) := by decide +kernel
theorem dX5_step_35 : decode cX5_step 35 = .ok (.if_icmp .ne 16, 3) := by decide +kernel
theorem dX5_step_38 : decode cX5_step 38 = .ok (.aload_n 0, 1) := by decide +kernel
theorem dX5_step_39 : decode cX5_step 39 = .ok (.dup, 1) := by decide +kernel
theorem dX5_step_40 : decode cX5_step 40 = .ok (.getfield 115, 3) := by decide +kernel
theorem dX5_step_43 : decode cX5_step 43 = .ok (.iconst 1, 1) := by decide +kernel
theorem dX5_step_44 : decode cX5_step 44 = .ok (.iadd, 1) := by decide +kernel
theorem dX5_step_45 : decode cX5_step 45 = .ok (.putfield 115, 3) := by decide +kernel
theorem dX5_step_48 : decode cX5_step 48 = .ok (.goto (-40), 3) := by decide +kernel
theorem dX5_step_51 : decode cX5_step 51 = .ok (.aload_n 0, 1) := by decide +kernel
theorem dX5_step_52 : decode cX5_step 52 = .ok (.getfield 12, 3) := by decide +kernel
theorem dX5_step_55 : decode cX5_step 55 = .ok (.aload_n 0, 1) := by decide +kernel
theorem dX5_step_56 : decode cX5_step 56 = .ok (.getfield 115, 3) := by decide +kernel
theorem dX5_step_59 : decode cX5_step 59 = .ok (.invokevirtual 121, 3) := by decide +kernel
theorem dX5_step_62 : decode cX5_step 62 = .ok (.istore_n 1, 1) := by decide +kernel
theorem dX5_step_63 : decode cX5_step 63 = .ok (.aload_n 0, 1) := by decide +kernel
theorem dX5_step_64 : decode cX5_step 64 = .ok (.aload_n 0, 1) := by decide +kernel
theorem dX5_step_65 : decode cX5_step 65 = .ok (.getfield 115, 3) := by decide +kernel
theorem dX5_step_68 : decode cX5_step 68 = .ok (.iconst 1, 1) := by decide +kernel
theorem dX5_step_69 : decode cX5_step 69 = .ok (.iadd, 1) := by decide +kernel
theorem dX5_step_70 : decode cX5_step 70 = .ok (.putfield 29, 3) := by decide +kernel
theorem dX5_step_73 : decode cX5_step 73 = .ok (.iload_n 1, 1) := by decide +kernel
theorem dX5_step_74 : decode cX5_step 74 = .ok (.iconst (-1), 1) := by decide +kernel
theorem dX5_step_75 : decode cX5_step 75 = .ok (.if_icmp .ne 11, 3) := by decide +kernel
theorem dX5_step_78 : decode cX5_step 78 = .ok (.aload_n 0, 1) := by decide +kernel
theorem dX5_step_79 : decode cX5_step 79 = .ok (.iconst 0, 1) := by decide +kernel
theorem dX5_step_80 : decode cX5_step 80 = .ok (.putfield 38, 3) := by decide +kernel
theorem dX5_step_83 : decode cX5_step 83 = .ok (.goto 79, 3) := by decide +kernel
theorem dX5_step_86 : decode cX5_step 86 = .ok (.iload_n 1, 1) := by decide +kernel
theorem dX5_step_87 : decode cX5_step 87 = .ok (.bipush 97, 2) := by decide +kernel
theorem dX5_step_89 : decode cX5_step 89 = .ok (.bipush 122, 2) := by decide +kernel
theorem dX5_step_91 : decode cX5_step 91 = .ok (.invokestatic 125, 3) := by decide +kernel
theorem dX5_step_94 : decode cX5_step 94 = .ok (.ifCond .eq 23, 3) := by decide +kernel
theorem dX5_step_97 : decode cX5_step 97 = .ok (.aload_n 0, 1) := by decide +kernel
theorem dX5_step_98 : decode cX5_step 98 = .ok (.iconst 1, 1) := by decide +kernel
theorem dX5_step_99 : decode cX5_step 99 = .ok (.putfield 38, 3) := by decide +kernel
theorem dX5_step_102 : decode cX5_step 102 = .ok (.aload_n 0, 1) := by decide +kernel
theorem dX5_step_103 : decode cX5_step 103 = .ok (.aload_n 0, 1) := by decide +kernel
theorem dX5_step_104 : decode cX5_step 104 = .ok (.bipush 97, 2) := by decide +kernel
theorem dX5_step_106 : decode cX5_step 106 = .ok (.bipush 122, 2) := by decide +kernel
theorem dX5_step_108 : decode cX5_step 108 = .ok (.invokevirtual 129, 3) := by decide +kernel
theorem dX5_step_111 : decode cX5_step 111 = .ok (.putfield 29, 3) := by decide +kernel
theorem dX5_step_114 : decode cX5_step 114 = .ok (.goto 48, 3) := by decide +kernel
theorem dX5_step_117 : decode cX5_step 117 = .ok (.iload_n 1, 1) := by decide +kernel
theorem dX5_step_118 : decode cX5_step 118 = .ok (.bipush 48, 2) := by decide +kernel
theorem dX5_step_120 : decode cX5_step 120 = .ok (.bipush 57, 2) := by decide +kernel
theorem dX5_step_122 : decode cX5_step 122 = .ok (.invokestatic 125, 3) := by decide +kernel
theorem dX5_step_125 : decode cX5_step 125 = .ok (.ifCond .eq 22, 3) := by decide +kernel
theorem dX5_step_128 : decode cX5_step 128 = .ok (.aload_n 0, 1) := by decide +kernel
theorem dX5_step_129 : decode cX5_step 129 = .ok (.aload_n 0, 1) := by decide +kernel
theorem dX5_step_130 : decode cX5_step 130 = .ok (.bipush 48, 2) := by decide +kernel
theorem dX5_step_132 : decode cX5_step 132 = .ok (.bipush 57, 2) := by decide +kernel
theorem dX5_step_134 : decode cX5_step 134 = .ok (.invokevirtual 129, 3) := by decide +kernel
theorem dX5_step_137 : decode cX5_step 137 = .ok (.putfield 29, 3) := by decide +kernel
theorem dX5_step_140 : decode cX5_step 140 = .ok (.aload_n 0, 1) := by decide +kernel
theorem dX5_step_141 : decode cX5_step 141 = .ok (.invokevirtual 132, 3) := by decide +kernel
theorem dX5_step_144 : decode cX5_step 144 = .ok (.goto 18, 3) := by decide +kernel
theorem dX5_step_147 : decode cX5_step 147 = .ok (.aload_n 0, 1) := by decide +kernel
theorem dX5_step_148 : decode cX5_step 148 = .ok (.iload_n 1, 1) := by decide +kernel
theorem dX5_step_149 : decode cX5_step 149 = .ok (.bipush 59, 2) := by decide +kernel
theorem dX5_step_151 : decode cX5_step 151 = .ok (.if_icmp .ne 7, 3) := by decide +kernel
theorem dX5_step_154 : decode cX5_step 154 = .ok (.iconst 3, 1) := by decide +kernel
theorem dX5_step_155 : decode cX5_step 155 = .ok (.goto 4, 3) := by decide +kernel
theorem dX5_step_158 : decode cX5_step 158 = .ok (.iconst 4, 1) := by decide +kernel
theorem dX5_step_159 : decode cX5_step 159 = .ok (.putfield 38, 3) := by decide +kernel
theorem dX5_step_162 : decode cX5_step 162 = .ok (.return_, 1) := by decide +kernel
