/-! ===== what stands at each place of the code ===== -/
theorem dX5_endOfRun_0 : decode cX5_endOfRun 0 = .ok (.aload_n 0, 1) := by decide +kernel
theorem dX5_endOfRun_1 : decode cX5_endOfRun 1 = .ok (.getfield 115, 3) := by decide +kernel
theorem dX5_endOfRun_4 : decode cX5_endOfRun 4 = .ok (.istore_n 3, 1) := by decide +kernel
theorem dX5_endOfRun_5 : decode cX5_endOfRun 5 = .ok (.iload_n 3, 1) := by decide +kernel
theorem dX5_endOfRun_6 : decode cX5_endOfRun 6 = .ok (.aload_n 0, 1) := by decide +kernel
theorem dX5_endOfRun_7 : decode cX5_endOfRun 7 = .ok (.getfield 12, 3) := by decide +kernel
theorem dX5_endOfRun_10 : decode cX5_endOfRun 10 = .ok (.getfield 118, 3) := by decide +kernel
theorem dX5_endOfRun_13 : decode cX5_endOfRun 13 = .ok (.if_icmp .ge 25, 3) := by decide +kernel
theorem dX5_endOfRun_16 : decode cX5_endOfRun 16 = .ok (.aload_n 0, 1) := by decide +kernel
theorem dX5_endOfRun_17 : decode cX5_endOfRun 17 = .ok (.getfield 12, 3) := by decide +kernel
theorem dX5_endOfRun_20 : decode cX5_endOfRun 20 = .ok (.iload_n 3, 1) := by decide +kernel
theorem dX5_endOfRun_21 : decode cX5_endOfRun 21 = .ok (.invokevirtual 121, 3) := by decide +kernel
theorem dX5_endOfRun_24 : decode cX5_endOfRun 24 = .ok (.iload_n 1, 1) := by decide +kernel
theorem dX5_endOfRun_25 : decode cX5_endOfRun 25 = .ok (.iload_n 2, 1) := by decide +kernel
theorem dX5_endOfRun_26 : decode cX5_endOfRun 26 = .ok (.invokestatic 125, 3) := by decide +kernel
theorem dX5_endOfRun_29 : decode cX5_endOfRun 29 = .ok (.ifCond .eq 9, 3) := by decide +kernel
theorem dX5_endOfRun_32 : decode cX5_endOfRun 32 = .ok (.iinc 3 1, 3) := by decide +kernel
theorem dX5_endOfRun_35 : decode cX5_endOfRun 35 = .ok (.goto (-30), 3) := by decide +kernel
theorem dX5_endOfRun_38 : decode cX5_endOfRun 38 = .ok (.iload_n 3, 1) := by decide +kernel
theorem dX5_endOfRun_39 : decode cX5_endOfRun 39 = .ok (.ireturn, 1) := by decide +kernel
theorem dX5_takeFigures_0 : decode cX5_takeFigures 0 = .ok (.aload_n 0, 1) := by decide +kernel
theorem dX5_takeFigures_1 : decode cX5_takeFigures 1 = .ok (.getfield 12, 3) := by decide +kernel
theorem dX5_takeFigures_4 : decode cX5_takeFigures 4 = .ok (.aload_n 0, 1) := by decide +kernel
theorem dX5_takeFigures_5 : decode cX5_takeFigures 5 = .ok (.getfield 29, 3) := by decide +kernel
theorem dX5_takeFigures_8 : decode cX5_takeFigures 8 = .ok (.iconst 1, 1) := by decide +kernel
theorem dX5_takeFigures_9 : decode cX5_takeFigures 9 = .ok (.isub, 1) := by decide +kernel
theorem dX5_takeFigures_10 : decode cX5_takeFigures 10 = .ok (.invokevirtual 121, 3) := by decide +kernel
theorem dX5_takeFigures_13 : decode cX5_takeFigures 13 = .ok (.bipush 48, 2) := by decide +kernel
theorem dX5_takeFigures_15 : decode cX5_takeFigures 15 = .ok (.isub, 1) := by decide +kernel
theorem dX5_takeFigures_16 : decode cX5_takeFigures 16 = .ok (.istore_n 1, 1) := by decide +kernel
theorem dX5_takeFigures_17 : decode cX5_takeFigures 17 = .ok (.aload_n 0, 1) := by decide +kernel
theorem dX5_takeFigures_18 : decode cX5_takeFigures 18 = .ok (.aload_n 0, 1) := by decide +kernel
theorem dX5_takeFigures_19 : decode cX5_takeFigures 19 = .ok (.getfield 29, 3) := by decide +kernel
theorem dX5_takeFigures_22 : decode cX5_takeFigures 22 = .ok (.aload_n 0, 1) := by decide +kernel
theorem dX5_takeFigures_23 : decode cX5_takeFigures 23 = .ok (.getfield 115, 3) := by decide +kernel
theorem dX5_takeFigures_26 : decode cX5_takeFigures 26 = .ok (.isub, 1) := by decide +kernel
theorem dX5_takeFigures_27 : decode cX5_takeFigures 27 = .ok (.iconst 2, 1) := by decide +kernel
theorem dX5_takeFigures_28 : decode cX5_takeFigures 28 = .ok (.if_icmp .ne 25, 3) := by decide +kernel
theorem dX5_takeFigures_31 : decode cX5_takeFigures 31 = .ok (.bipush 10, 2) := by decide +kernel
theorem dX5_takeFigures_33 : decode cX5_takeFigures 33 = .ok (.aload_n 0, 1) := by decide +kernel
theorem dX5_takeFigures_34 : decode cX5_takeFigures 34 = .ok (.getfield 12, 3) := by decide +kernel
theorem dX5_takeFigures_37 : decode cX5_takeFigures 37 = .ok (.aload_n 0, 1) := by decide +kernel
theorem dX5_takeFigures_38 : decode cX5_takeFigures 38 = .ok (.getfield 115, 3) := by decide +kernel
theorem dX5_takeFigures_41 : decode cX5_takeFigures 41 = .ok (.invokevirtual 121, 3) := by decide +kernel
theorem dX5_takeFigures_44 : decode cX5_takeFigures 44 = .ok (.bipush 48, 2) := by decide +kernel
theorem dX5_takeFigures_46 : decode cX5_takeFigures 46 = .ok (.isub, 1) := by decide +kernel
theorem dX5_takeFigures_47 : decode cX5_takeFigures 47 = .ok (.imul, 1) := by decide +kernel
theorem dX5_takeFigures_48 : decode cX5_takeFigures 48 = .ok (.iload_n 1, 1) := by decide +kernel
theorem dX5_takeFigures_49 : decode cX5_takeFigures 49 = .ok (.iadd, 1) := by decide +kernel
theorem dX5_takeFigures_50 : decode cX5_takeFigures 50 = .ok (.goto 4, 3) := by decide +kernel
theorem dX5_takeFigures_53 : decode cX5_takeFigures 53 = .ok (.iload_n 1, 1) := by decide +kernel
theorem dX5_takeFigures_54 : decode cX5_takeFigures 54 = .ok (.putfield 112, 3) := by decide +kernel
theorem dX5_takeFigures_57 : decode cX5_takeFigures 57 = .ok (.aload_n 0, 1) := by decide +kernel
theorem dX5_takeFigures_58 : decode cX5_takeFigures 58 = .ok (.aload_n 0, 1) := by decide +kernel
theorem dX5_takeFigures_59 : decode cX5_takeFigures 59 = .ok (.getfield 29, 3) := by decide +kernel
theorem dX5_takeFigures_62 : decode cX5_takeFigures 62 = .ok (.aload_n 0, 1) := by decide +kernel
theorem dX5_takeFigures_63 : decode cX5_takeFigures 63 = .ok (.getfield 115, 3) := by decide +kernel
theorem dX5_takeFigures_66 : decode cX5_takeFigures 66 = .ok (.isub, 1) := by decide +kernel
theorem dX5_takeFigures_67 : decode cX5_takeFigures 67 = .ok (.iconst 2, 1) := by decide +kernel
theorem dX5_takeFigures_68 : decode cX5_takeFigures 68 = .ok (.if_icmp .gt 7, 3) := by decide +kernel
theorem dX5_takeFigures_71 : decode cX5_takeFigures 71 = .ok (.iconst 2, 1) := by decide +kernel
theorem dX5_takeFigures_72 : decode cX5_takeFigures 72 = .ok (.goto 4, 3) := by decide +kernel
theorem dX5_takeFigures_75 : decode cX5_takeFigures 75 = .ok (.iconst 4, 1) := by decide +kernel
theorem dX5_takeFigures_76 : decode cX5_takeFigures 76 = .ok (.putfield 38, 3) := by decide +kernel
theorem dX5_takeFigures_79 : decode cX5_takeFigures 79 = .ok (.return_, 1) := by decide +kernel
theorem dX5_isWord_0 : decode cX5_isWord 0 = .ok (.aload_n 0, 1) := by decide +kernel
theorem dX5_isWord_1 : decode cX5_isWord 1 = .ok (.getfield 38, 3) := by decide +kernel
theorem dX5_isWord_4 : decode cX5_isWord 4 = .ok (.iconst 1, 1) := by decide +kernel
theorem dX5_isWord_5 : decode cX5_isWord 5 = .ok (.if_icmp .ne 19, 3) := by decide +kernel
theorem dX5_isWord_8 : decode cX5_isWord 8 = .ok (.aload_n 0, 1) := by decide +kernel
theorem dX5_isWord_9 : decode cX5_isWord 9 = .ok (.getfield 29, 3) := by decide +kernel
theorem dX5_isWord_12 : decode cX5_isWord 12 = .ok (.aload_n 0, 1) := by decide +kernel
theorem dX5_isWord_13 : decode cX5_isWord 13 = .ok (.getfield 115, 3) := by decide +kernel
theorem dX5_isWord_16 : decode cX5_isWord 16 = .ok (.isub, 1) := by decide +kernel
theorem dX5_isWord_17 : decode cX5_isWord 17 = .ok (.aload_n 1, 1) := by decide +kernel
theorem dX5_isWord_18 : decode cX5_isWord 18 = .ok (.invokevirtual 135, 3) := by decide +kernel
theorem dX5_isWord_21 : decode cX5_isWord 21 = .ok (.if_icmp .eq 5, 3) := by decide +kernel
theorem dX5_isWord_24 : decode cX5_isWord 24 = .ok (.iconst 0, 1) := by decide +kernel
theorem dX5_isWord_25 : decode cX5_isWord 25 = .ok (.ireturn, 1) := by decide +kernel
theorem dX5_isWord_26 : decode cX5_isWord 26 = .ok (.iconst 0, 1) := by decide +kernel
theorem dX5_isWord_27 : decode cX5_isWord 27 = .ok (.istore_n 2, 1) := by decide +kernel
theorem dX5_isWord_28 : decode cX5_isWord 28 = .ok (.iload_n 2, 1) := by decide +kernel
theorem dX5_isWord_29 : decode cX5_isWord 29 = .ok (.aload_n 1, 1) := by decide +kernel
theorem dX5_isWord_30 : decode cX5_isWord 30 = .ok (.invokevirtual 135, 3) := by decide +kernel
theorem dX5_isWord_33 : decode cX5_isWord 33 = .ok (.if_icmp .ge 32, 3) := by decide +kernel
theorem dX5_isWord_36 : decode cX5_isWord 36 = .ok (.aload_n 0, 1) := by decide +kernel
theorem dX5_isWord_37 : decode cX5_isWord 37 = .ok (.getfield 12, 3) := by decide +kernel
theorem dX5_isWord_40 : decode cX5_isWord 40 = .ok (.aload_n 0, 1) := by decide +kernel
theorem dX5_isWord_41 : decode cX5_isWord 41 = .ok (.getfield 115, 3) := by decide +kernel
theorem dX5_isWord_44 : decode cX5_isWord 44 = .ok (.iload_n 2, 1) := by decide +kernel
theorem dX5_isWord_45 : decode cX5_isWord 45 = .ok (.iadd, 1) := by decide +kernel
theorem dX5_isWord_46 : decode cX5_isWord 46 = .ok (.invokevirtual 121, 3) := by decide +kernel
theorem dX5_isWord_49 : decode cX5_isWord 49 = .ok (.aload_n 1, 1) := by decide +kernel
theorem dX5_isWord_50 : decode cX5_isWord 50 = .ok (.iload_n 2, 1) := by decide +kernel
theorem dX5_isWord_51 : decode cX5_isWord 51 = .ok (.invokevirtual 140, 3) := by decide +kernel
theorem dX5_isWord_54 : decode cX5_isWord 54 = .ok (.if_icmp .eq 5, 3) := by decide +kernel
theorem dX5_isWord_57 : decode cX5_isWord 57 = .ok (.iconst 0, 1) := by decide +kernel
theorem dX5_isWord_58 : decode cX5_isWord 58 = .ok (.ireturn, 1) := by decide +kernel
theorem dX5_isWord_59 : decode cX5_isWord 59 = .ok (.iinc 2 1, 3) := by decide +kernel
theorem dX5_isWord_62 : decode cX5_isWord 62 = .ok (.goto (-34), 3) := by decide +kernel
theorem dX5_isWord_65 : decode cX5_isWord 65 = .ok (.iconst 1, 1) := by decide +kernel
theorem dX5_isWord_66 : decode cX5_isWord 66 = .ok (.ireturn, 1) := by decide +kernel
theorem dX6_init_0 : decode cX6_init 0 = .ok (.aload_n 0, 1) := by decide +kernel
theorem dX6_init_1 : decode cX6_init 1 = .ok (.invokespecial 3, 3) := by decide +kernel
theorem dX6_init_4 : decode cX6_init 4 = .ok (.aload_n 0, 1) := by decide +kernel
theorem dX6_init_5 : decode cX6_init 5 = .ok (.new 9, 3) := by decide +kernel
theorem dX6_init_8 : decode cX6_init 8 = .ok (.dup, 1) := by decide +kernel
theorem dX6_init_9 : decode cX6_init 9 = .ok (.bipush 6, 2) := by decide +kernel
theorem dX6_init_11 : decode cX6_init 11 = .ok (.iconst 2, 1) := by decide +kernel
theorem dX6_init_12 : decode cX6_init 12 = .ok (.invokespecial 11, 3) := by decide +kernel
theorem dX6_init_15 : decode cX6_init 15 = .ok (.putfield 14, 3) := by decide +kernel
theorem dX6_init_18 : decode cX6_init 18 = .ok (.aload_n 0, 1) := by decide +kernel
theorem dX6_init_19 : decode cX6_init 19 = .ok (.new 9, 3) := by decide +kernel
theorem dX6_init_22 : decode cX6_init 22 = .ok (.dup, 1) := by decide +kernel
theorem dX6_init_23 : decode cX6_init 23 = .ok (.bipush 12, 2) := by decide +kernel
theorem dX6_init_25 : decode cX6_init 25 = .ok (.bipush 7, 2) := by decide +kernel
theorem dX6_init_27 : decode cX6_init 27 = .ok (.invokespecial 11, 3) := by decide +kernel
theorem dX6_init_30 : decode cX6_init 30 = .ok (.putfield 20, 3) := by decide +kernel
theorem dX6_init_33 : decode cX6_init 33 = .ok (.aload_n 0, 1) := by decide +kernel
theorem dX6_init_34 : decode cX6_init 34 = .ok (.new 9, 3) := by decide +kernel
theorem dX6_init_37 : decode cX6_init 37 = .ok (.dup, 1) := by decide +kernel
theorem dX6_init_38 : decode cX6_init 38 = .ok (.iconst 5, 1) := by decide +kernel
theorem dX6_init_39 : decode cX6_init 39 = .ok (.iconst 4, 1) := by decide +kernel
theorem dX6_init_40 : decode cX6_init 40 = .ok (.invokespecial 11, 3) := by decide +kernel
theorem dX6_init_43 : decode cX6_init 43 = .ok (.putfield 23, 3) := by decide +kernel
theorem dX6_init_46 : decode cX6_init 46 = .ok (.aload_n 0, 1) := by decide +kernel
theorem dX6_init_47 : decode cX6_init 47 = .ok (.new 9, 3) := by decide +kernel
theorem dX6_init_50 : decode cX6_init 50 = .ok (.dup, 1) := by decide +kernel
theorem dX6_init_51 : decode cX6_init 51 = .ok (.bipush 12, 2) := by decide +kernel
theorem dX6_init_53 : decode cX6_init 53 = .ok (.iconst 3, 1) := by decide +kernel
theorem dX6_init_54 : decode cX6_init 54 = .ok (.invokespecial 11, 3) := by decide +kernel
theorem dX6_init_57 : decode cX6_init 57 = .ok (.putfield 26, 3) := by decide +kernel
theorem dX6_init_60 : decode cX6_init 60 = .ok (.aload_n 0, 1) := by decide +kernel
theorem dX6_init_61 : decode cX6_init 61 = .ok (.new 9, 3) := by decide +kernel
theorem dX6_init_64 : decode cX6_init 64 = .ok (.dup, 1) := by decide +kernel
theorem dX6_init_65 : decode cX6_init 65 = .ok (.iconst 4, 1) := by decide +kernel
theorem dX6_init_66 : decode cX6_init 66 = .ok (.iconst 1, 1) := by decide +kernel
theorem dX6_init_67 : decode cX6_init 67 = .ok (.invokespecial 11, 3) := by decide +kernel
theorem dX6_init_70 : decode cX6_init 70 = .ok (.putfield 29, 3) := by decide +kernel
theorem dX6_init_73 : decode cX6_init 73 = .ok (.aload_n 0, 1) := by decide +kernel
theorem dX6_init_74 : decode cX6_init 74 = .ok (.getfield 29, 3) := by decide +kernel
theorem dX6_init_77 : decode cX6_init 77 = .ok (.iconst 4, 1) := by decide +kernel
theorem dX6_init_78 : decode cX6_init 78 = .ok (.putfield 32, 3) := by decide +kernel
theorem dX6_init_81 : decode cX6_init 81 = .ok (.return_, 1) := by decide +kernel
theorem dX6_open_0 : decode cX6_open 0 = .ok (.aload_n 0, 1) := by decide +kernel
theorem dX6_open_1 : decode cX6_open 1 = .ok (.getfield 14, 3) := by decide +kernel
theorem dX6_open_4 : decode cX6_open 4 = .ok (.invokevirtual 36, 3) := by decide +kernel
theorem dX6_open_7 : decode cX6_open 7 = .ok (.pop, 1) := by decide +kernel
theorem dX6_open_8 : decode cX6_open 8 = .ok (.iconst 0, 1) := by decide +kernel
theorem dX6_open_9 : decode cX6_open 9 = .ok (.istore_n 2, 1) := by decide +kernel
theorem dX6_open_10 : decode cX6_open 10 = .ok (.iload_n 2, 1) := by decide +kernel
theorem dX6_open_11 : decode cX6_open 11 = .ok (.iload_n 1, 1) := by decide +kernel
theorem dX6_open_12 : decode cX6_open 12 = .ok (.if_icmp .ge 38, 3) := by decide +kernel
theorem dX6_open_15 : decode cX6_open 15 = .ok (.aload_n 0, 1) := by decide +kernel
theorem dX6_open_16 : decode cX6_open 16 = .ok (.getfield 14, 3) := by decide +kernel
theorem dX6_open_19 : decode cX6_open 19 = .ok (.invokevirtual 40, 3) := by decide +kernel
theorem dX6_open_22 : decode cX6_open 22 = .ok (.istore_n 3, 1) := by decide +kernel
theorem dX6_open_23 : decode cX6_open 23 = .ok (.aload_n 0, 1) := by decide +kernel
theorem dX6_open_24 : decode cX6_open 24 = .ok (.getfield 14, 3) := by decide +kernel
theorem dX6_open_27 : decode cX6_open 27 = .ok (.iload_n 3, 1) := by decide +kernel
theorem dX6_open_28 : decode cX6_open 28 = .ok (.iconst 0, 1) := by decide +kernel
theorem dX6_open_29 : decode cX6_open 29 = .ok (.bipush 20, 2) := by decide +kernel
theorem dX6_open_31 : decode cX6_open 31 = .ok (.invokevirtual 43, 3) := by decide +kernel
theorem dX6_open_34 : decode cX6_open 34 = .ok (.aload_n 0, 1) := by decide +kernel
theorem dX6_open_35 : decode cX6_open 35 = .ok (.getfield 14, 3) := by decide +kernel
theorem dX6_open_38 : decode cX6_open 38 = .ok (.iload_n 3, 1) := by decide +kernel
theorem dX6_open_39 : decode cX6_open 39 = .ok (.iconst 1, 1) := by decide +kernel
theorem dX6_open_40 : decode cX6_open 40 = .ok (.iconst 0, 1) := by decide +kernel
theorem dX6_open_41 : decode cX6_open 41 = .ok (.invokevirtual 43, 3) := by decide +kernel
theorem dX6_open_44 : decode cX6_open 44 = .ok (.iinc 2 1, 3) := by decide +kernel
theorem dX6_open_47 : decode cX6_open 47 = .ok (.goto (-37), 3) := by decide +kernel
theorem dX6_open_50 : decode cX6_open 50 = .ok (.aload_n 0, 1) := by decide +kernel
theorem dX6_open_51 : decode cX6_open 51 = .ok (.getfield 20, 3) := by decide +kernel
theorem dX6_open_54 : decode cX6_open 54 = .ok (.invokevirtual 36, 3) := by decide +kernel
theorem dX6_open_57 : decode cX6_open 57 = .ok (.pop, 1) := by decide +kernel
theorem dX6_open_58 : decode cX6_open 58 = .ok (.aload_n 0, 1) := by decide +kernel
theorem dX6_open_59 : decode cX6_open 59 = .ok (.getfield 23, 3) := by decide +kernel
theorem dX6_open_62 : decode cX6_open 62 = .ok (.invokevirtual 36, 3) := by decide +kernel
theorem dX6_open_65 : decode cX6_open 65 = .ok (.pop, 1) := by decide +kernel
theorem dX6_open_66 : decode cX6_open 66 = .ok (.aload_n 0, 1) := by decide +kernel
theorem dX6_open_67 : decode cX6_open 67 = .ok (.getfield 26, 3) := by decide +kernel
theorem dX6_open_70 : decode cX6_open 70 = .ok (.invokevirtual 36, 3) := by decide +kernel
theorem dX6_open_73 : decode cX6_open 73 = .ok (.pop, 1) := by decide +kernel
theorem dX6_open_74 : decode cX6_open 74 = .ok (.aload_n 0, 1) := by decide +kernel
theorem dX6_open_75 : decode cX6_open 75 = .ok (.iconst 0, 1) := by decide +kernel
theorem dX6_open_76 : decode cX6_open 76 = .ok (.putfield 47, 3) := by decide +kernel
theorem dX6_open_79 : decode cX6_open 79 = .ok (.return_, 1) := by decide +kernel
theorem dX6_copyFrom_0 : decode cX6_copyFrom 0 = .ok (.aload_n 0, 1) := by decide +kernel
theorem dX6_copyFrom_1 : decode cX6_copyFrom 1 = .ok (.aload_n 1, 1) := by decide +kernel
theorem dX6_copyFrom_2 : decode cX6_copyFrom 2 = .ok (.invokevirtual 50, 3) := by decide +kernel
theorem dX6_copyFrom_5 : decode cX6_copyFrom 5 = .ok (.aload_n 0, 1) := by decide +kernel
theorem dX6_copyFrom_6 : decode cX6_copyFrom 6 = .ok (.getfield 29, 3) := by decide +kernel
theorem dX6_copyFrom_9 : decode cX6_copyFrom 9 = .ok (.aload_n 1, 1) := by decide +kernel
theorem dX6_copyFrom_10 : decode cX6_copyFrom 10 = .ok (.getfield 29, 3) := by decide +kernel
theorem dX6_copyFrom_13 : decode cX6_copyFrom 13 = .ok (.invokevirtual 54, 3) := by decide +kernel
theorem dX6_copyFrom_16 : decode cX6_copyFrom 16 = .ok (.return_, 1) := by decide +kernel
theorem dX6_takeAllButRates_0 : decode cX6_takeAllButRates 0 = .ok (.aload_n 0, 1) := by decide +kernel
theorem dX6_takeAllButRates_1 : decode cX6_takeAllButRates 1 = .ok (.getfield 14, 3) := by decide +kernel
theorem dX6_takeAllButRates_4 : decode cX6_takeAllButRates 4 = .ok (.aload_n 1, 1) := by decide +kernel
theorem dX6_takeAllButRates_5 : decode cX6_takeAllButRates 5 = .ok (.getfield 14, 3) := by decide +kernel
theorem dX6_takeAllButRates_8 : decode cX6_takeAllButRates 8 = .ok (.invokevirtual 54, 3) := by decide +kernel
theorem dX6_takeAllButRates_11 : decode cX6_takeAllButRates 11 = .ok (.aload_n 0, 1) := by decide +kernel
theorem dX6_takeAllButRates_12 : decode cX6_takeAllButRates 12 = .ok (.getfield 20, 3) := by decide +kernel
theorem dX6_takeAllButRates_15 : decode cX6_takeAllButRates 15 = .ok (.aload_n 1, 1) := by decide +kernel
theorem dX6_takeAllButRates_16 : decode cX6_takeAllButRates 16 = .ok (.getfield 20, 3) := by decide +kernel
theorem dX6_takeAllButRates_19 : decode cX6_takeAllButRates 19 = .ok (.invokevirtual 54, 3) := by decide +kernel
theorem dX6_takeAllButRates_22 : decode cX6_takeAllButRates 22 = .ok (.aload_n 0, 1) := by decide +kernel
theorem dX6_takeAllButRates_23 : decode cX6_takeAllButRates 23 = .ok (.getfield 23, 3) := by decide +kernel
theorem dX6_takeAllButRates_26 : decode cX6_takeAllButRates 26 = .ok (.aload_n 1, 1) := by decide +kernel
theorem dX6_takeAllButRates_27 : decode cX6_takeAllButRates 27 = .ok (.getfield 23, 3) := by decide +kernel
theorem dX6_takeAllButRates_30 : decode cX6_takeAllButRates 30 = .ok (.invokevirtual 54, 3) := by decide +kernel
theorem dX6_takeAllButRates_33 : decode cX6_takeAllButRates 33 = .ok (.aload_n 0, 1) := by decide +kernel
theorem dX6_takeAllButRates_34 : decode cX6_takeAllButRates 34 = .ok (.getfield 26, 3) := by decide +kernel
theorem dX6_takeAllButRates_37 : decode cX6_takeAllButRates 37 = .ok (.aload_n 1, 1) := by decide +kernel
theorem dX6_takeAllButRates_38 : decode cX6_takeAllButRates 38 = .ok (.getfield 26, 3) := by decide +kernel
theorem dX6_takeAllButRates_41 : decode cX6_takeAllButRates 41 = .ok (.invokevirtual 54, 3) := by decide +kernel
theorem dX6_takeAllButRates_44 : decode cX6_takeAllButRates 44 = .ok (.aload_n 0, 1) := by decide +kernel
theorem dX6_takeAllButRates_45 : decode cX6_takeAllButRates 45 = .ok (.aload_n 1, 1) := by decide +kernel
theorem dX6_takeAllButRates_46 : decode cX6_takeAllButRates 46 = .ok (.getfield 47, 3) := by decide +kernel
theorem dX6_takeAllButRates_49 : decode cX6_takeAllButRates 49 = .ok (.putfield 47, 3) := by decide +kernel
theorem dX6_takeAllButRates_52 : decode cX6_takeAllButRates 52 = .ok (.return_, 1) := by decide +kernel
theorem dX6_addFavour_0 : decode cX6_addFavour 0 = .ok (.aload_n 0, 1) := by decide +kernel
theorem dX6_addFavour_1 : decode cX6_addFavour 1 = .ok (.getfield 20, 3) := by decide +kernel
theorem dX6_addFavour_4 : decode cX6_addFavour 4 = .ok (.invokevirtual 40, 3) := by decide +kernel
theorem dX6_addFavour_7 : decode cX6_addFavour 7 = .ok (.istore 7, 2) := by decide +kernel
theorem dX6_addFavour_9 : decode cX6_addFavour 9 = .ok (.aload_n 0, 1) := by decide +kernel
theorem dX6_addFavour_10 : decode cX6_addFavour 10 = .ok (.getfield 20, 3) := by decide +kernel
theorem dX6_addFavour_13 : decode cX6_addFavour 13 = .ok (.iload 7, 2) := by decide +kernel
theorem dX6_addFavour_15 : decode cX6_addFavour 15 = .ok (.iconst 0, 1) := by decide +kernel
theorem dX6_addFavour_16 : decode cX6_addFavour 16 = .ok (.iload_n 1, 1) := by decide +kernel
theorem dX6_addFavour_17 : decode cX6_addFavour 17 = .ok (.invokevirtual 43, 3) := by decide +kernel
theorem dX6_addFavour_20 : decode cX6_addFavour 20 = .ok (.aload_n 0, 1) := by decide +kernel
theorem dX6_addFavour_21 : decode cX6_addFavour 21 = .ok (.getfield 20, 3) := by decide +kernel
theorem dX6_addFavour_24 : decode cX6_addFavour 24 = .ok (.iload 7, 2) := by decide +kernel
theorem dX6_addFavour_26 : decode cX6_addFavour 26 = .ok (.iconst 1, 1) := by decide +kernel
theorem dX6_addFavour_27 : decode cX6_addFavour 27 = .ok (.iload_n 2, 1) := by decide +kernel
theorem dX6_addFavour_28 : decode cX6_addFavour 28 = .ok (.invokevirtual 43, 3) := by decide +kernel
theorem dX6_addFavour_31 : decode cX6_addFavour 31 = .ok (.aload_n 0, 1) := by decide +kernel
theorem dX6_addFavour_32 : decode cX6_addFavour 32 = .ok (.getfield 20, 3) := by decide +kernel
theorem dX6_addFavour_35 : decode cX6_addFavour 35 = .ok (.iload 7, 2) := by decide +kernel
theorem dX6_addFavour_37 : decode cX6_addFavour 37 = .ok (.iconst 2, 1) := by decide +kernel
theorem dX6_addFavour_38 : decode cX6_addFavour 38 = .ok (.iload_n 3, 1) := by decide +kernel
theorem dX6_addFavour_39 : decode cX6_addFavour 39 = .ok (.invokevirtual 43, 3) := by decide +kernel
theorem dX6_addFavour_42 : decode cX6_addFavour 42 = .ok (.aload_n 0, 1) := by decide +kernel
theorem dX6_addFavour_43 : decode cX6_addFavour 43 = .ok (.getfield 20, 3) := by decide +kernel
theorem dX6_addFavour_46 : decode cX6_addFavour 46 = .ok (.iload 7, 2) := by decide +kernel
theorem dX6_addFavour_48 : decode cX6_addFavour 48 = .ok (.iconst 3, 1) := by decide +kernel
theorem dX6_addFavour_49 : decode cX6_addFavour 49 = .ok (.iload 4, 2) := by decide +kernel
theorem dX6_addFavour_51 : decode cX6_addFavour 51 = .ok (.invokevirtual 43, 3) := by decide +kernel
theorem dX6_addFavour_54 : decode cX6_addFavour 54 = .ok (.aload_n 0, 1) := by decide +kernel
theorem dX6_addFavour_55 : decode cX6_addFavour 55 = .ok (.getfield 20, 3) := by decide +kernel
theorem dX6_addFavour_58 : decode cX6_addFavour 58 = .ok (.iload 7, 2) := by decide +kernel
theorem dX6_addFavour_60 : decode cX6_addFavour 60 = .ok (.iconst 4, 1) := by decide +kernel
theorem dX6_addFavour_61 : decode cX6_addFavour 61 = .ok (.iload 5, 2) := by decide +kernel
theorem dX6_addFavour_63 : decode cX6_addFavour 63 = .ok (.invokevirtual 43, 3) := by decide +kernel
theorem dX6_addFavour_66 : decode cX6_addFavour 66 = .ok (.aload_n 0, 1) := by decide +kernel
theorem dX6_addFavour_67 : decode cX6_addFavour 67 = .ok (.getfield 20, 3) := by decide +kernel
theorem dX6_addFavour_70 : decode cX6_addFavour 70 = .ok (.iload 7, 2) := by decide +kernel
theorem dX6_addFavour_72 : decode cX6_addFavour 72 = .ok (.iconst 5, 1) := by decide +kernel
theorem dX6_addFavour_73 : decode cX6_addFavour 73 = .ok (.iload 6, 2) := by decide +kernel
theorem dX6_addFavour_75 : decode cX6_addFavour 75 = .ok (.invokevirtual 43, 3) := by decide +kernel
theorem dX6_addFavour_78 : decode cX6_addFavour 78 = .ok (.aload_n 0, 1) := by decide +kernel
theorem dX6_addFavour_79 : decode cX6_addFavour 79 = .ok (.getfield 20, 3) := by decide +kernel
theorem dX6_addFavour_82 : decode cX6_addFavour 82 = .ok (.iload 7, 2) := by decide +kernel
theorem dX6_addFavour_84 : decode cX6_addFavour 84 = .ok (.bipush 6, 2) := by decide +kernel
theorem dX6_addFavour_86 : decode cX6_addFavour 86 = .ok (.aload_n 0, 1) := by decide +kernel
theorem dX6_addFavour_87 : decode cX6_addFavour 87 = .ok (.getfield 47, 3) := by decide +kernel
theorem dX6_addFavour_90 : decode cX6_addFavour 90 = .ok (.invokevirtual 43, 3) := by decide +kernel
theorem dX6_addFavour_93 : decode cX6_addFavour 93 = .ok (.iload 7, 2) := by decide +kernel
theorem dX6_addFavour_95 : decode cX6_addFavour 95 = .ok (.ireturn, 1) := by decide +kernel
theorem dX6_addNeed_0 : decode cX6_addNeed 0 = .ok (.aload_n 0, 1) := by decide +kernel
theorem dX6_addNeed_1 : decode cX6_addNeed 1 = .ok (.getfield 23, 3) := by decide +kernel
theorem dX6_addNeed_4 : decode cX6_addNeed 4 = .ok (.invokevirtual 40, 3) := by decide +kernel
theorem dX6_addNeed_7 : decode cX6_addNeed 7 = .ok (.istore 5, 2) := by decide +kernel
theorem dX6_addNeed_9 : decode cX6_addNeed 9 = .ok (.aload_n 0, 1) := by decide +kernel
theorem dX6_addNeed_10 : decode cX6_addNeed 10 = .ok (.getfield 23, 3) := by decide +kernel
theorem dX6_addNeed_13 : decode cX6_addNeed 13 = .ok (.iload 5, 2) := by decide +kernel
theorem dX6_addNeed_15 : decode cX6_addNeed 15 = .ok (.iconst 0, 1) := by decide +kernel
theorem dX6_addNeed_16 : decode cX6_addNeed 16 = .ok (.iload_n 1, 1) := by decide +kernel
theorem dX6_addNeed_17 : decode cX6_addNeed 17 = .ok (.invokevirtual 43, 3) := by decide +kernel
theorem dX6_addNeed_20 : decode cX6_addNeed 20 = .ok (.aload_n 0, 1) := by decide +kernel
theorem dX6_addNeed_21 : decode cX6_addNeed 21 = .ok (.getfield 23, 3) := by decide +kernel
theorem dX6_addNeed_24 : decode cX6_addNeed 24 = .ok (.iload 5, 2) := by decide +kernel
theorem dX6_addNeed_26 : decode cX6_addNeed 26 = .ok (.iconst 1, 1) := by decide +kernel
theorem dX6_addNeed_27 : decode cX6_addNeed 27 = .ok (.iload_n 2, 1) := by decide +kernel
theorem dX6_addNeed_28 : decode cX6_addNeed 28 = .ok (.invokevirtual 43, 3) := by decide +kernel
theorem dX6_addNeed_31 : decode cX6_addNeed 31 = .ok (.aload_n 0, 1) := by decide +kernel
theorem dX6_addNeed_32 : decode cX6_addNeed 32 = .ok (.getfield 23, 3) := by decide +kernel
theorem dX6_addNeed_35 : decode cX6_addNeed 35 = .ok (.iload 5, 2) := by decide +kernel
theorem dX6_addNeed_37 : decode cX6_addNeed 37 = .ok (.iconst 2, 1) := by decide +kernel
theorem dX6_addNeed_38 : decode cX6_addNeed 38 = .ok (.iload_n 3, 1) := by decide +kernel
theorem dX6_addNeed_39 : decode cX6_addNeed 39 = .ok (.invokevirtual 43, 3) := by decide +kernel
theorem dX6_addNeed_42 : decode cX6_addNeed 42 = .ok (.aload_n 0, 1) := by decide +kernel
theorem dX6_addNeed_43 : decode cX6_addNeed 43 = .ok (.getfield 23, 3) := by decide +kernel
theorem dX6_addNeed_46 : decode cX6_addNeed 46 = .ok (.iload 5, 2) := by decide +kernel
theorem dX6_addNeed_48 : decode cX6_addNeed 48 = .ok (.iconst 3, 1) := by decide +kernel
theorem dX6_addNeed_49 : decode cX6_addNeed 49 = .ok (.iload 4, 2) := by decide +kernel
theorem dX6_addNeed_51 : decode cX6_addNeed 51 = .ok (.invokevirtual 43, 3) := by decide +kernel
theorem dX6_addNeed_54 : decode cX6_addNeed 54 = .ok (.iload 5, 2) := by decide +kernel
theorem dX6_addNeed_56 : decode cX6_addNeed 56 = .ok (.ireturn, 1) := by decide +kernel
theorem dX6_addPass_0 : decode cX6_addPass 0 = .ok (.aload_n 0, 1) := by decide +kernel
theorem dX6_addPass_1 : decode cX6_addPass 1 = .ok (.getfield 26, 3) := by decide +kernel
theorem dX6_addPass_4 : decode cX6_addPass 4 = .ok (.invokevirtual 40, 3) := by decide +kernel
theorem dX6_addPass_7 : decode cX6_addPass 7 = .ok (.istore 4, 2) := by decide +kernel
theorem dX6_addPass_9 : decode cX6_addPass 9 = .ok (.aload_n 0, 1) := by decide +kernel
theorem dX6_addPass_10 : decode cX6_addPass 10 = .ok (.getfield 26, 3) := by decide +kernel
theorem dX6_addPass_13 : decode cX6_addPass 13 = .ok (.iload 4, 2) := by decide +kernel
theorem dX6_addPass_15 : decode cX6_addPass 15 = .ok (.iconst 0, 1) := by decide +kernel
theorem dX6_addPass_16 : decode cX6_addPass 16 = .ok (.iload_n 1, 1) := by decide +kernel
theorem dX6_addPass_17 : decode cX6_addPass 17 = .ok (.invokevirtual 43, 3) := by decide +kernel
theorem dX6_addPass_20 : decode cX6_addPass 20 = .ok (.aload_n 0, 1) := by decide +kernel
theorem dX6_addPass_21 : decode cX6_addPass 21 = .ok (.getfield 26, 3) := by decide +kernel
theorem dX6_addPass_24 : decode cX6_addPass 24 = .ok (.iload 4, 2) := by decide +kernel
theorem dX6_addPass_26 : decode cX6_addPass 26 = .ok (.iconst 1, 1) := by decide +kernel
theorem dX6_addPass_27 : decode cX6_addPass 27 = .ok (.iload_n 2, 1) := by decide +kernel
theorem dX6_addPass_28 : decode cX6_addPass 28 = .ok (.invokevirtual 43, 3) := by decide +kernel
theorem dX6_addPass_31 : decode cX6_addPass 31 = .ok (.aload_n 0, 1) := by decide +kernel
theorem dX6_addPass_32 : decode cX6_addPass 32 = .ok (.getfield 26, 3) := by decide +kernel
theorem dX6_addPass_35 : decode cX6_addPass 35 = .ok (.iload 4, 2) := by decide +kernel
theorem dX6_addPass_37 : decode cX6_addPass 37 = .ok (.iconst 2, 1) := by decide +kernel
theorem dX6_addPass_38 : decode cX6_addPass 38 = .ok (.iload_n 3, 1) := by decide +kernel
theorem dX6_addPass_39 : decode cX6_addPass 39 = .ok (.invokevirtual 43, 3) := by decide +kernel
theorem dX6_addPass_42 : decode cX6_addPass 42 = .ok (.iload 4, 2) := by decide +kernel
theorem dX6_addPass_44 : decode cX6_addPass 44 = .ok (.ireturn, 1) := by decide +kernel
theorem dX6_wake_0 : decode cX6_wake 0 = .ok (.aload_n 0, 1) := by decide +kernel
theorem dX6_wake_1 : decode cX6_wake 1 = .ok (.dup, 1) := by decide +kernel
theorem dX6_wake_2 : decode cX6_wake 2 = .ok (.getfield 47, 3) := by decide +kernel
theorem dX6_wake_5 : decode cX6_wake 5 = .ok (.iconst 1, 1) := by decide +kernel
theorem dX6_wake_6 : decode cX6_wake 6 = .ok (.iadd, 1) := by decide +kernel
theorem dX6_wake_7 : decode cX6_wake 7 = .ok (.putfield 47, 3) := by decide +kernel
theorem dX6_wake_10 : decode cX6_wake 10 = .ok (.iconst 0, 1) := by decide +kernel
theorem dX6_wake_11 : decode cX6_wake 11 = .ok (.istore_n 1, 1) := by decide +kernel
theorem dX6_wake_12 : decode cX6_wake 12 = .ok (.iload_n 1, 1) := by decide +kernel
theorem dX6_wake_13 : decode cX6_wake 13 = .ok (.aload_n 0, 1) := by decide +kernel
theorem dX6_wake_14 : decode cX6_wake 14 = .ok (.getfield 14, 3) := by decide +kernel
theorem dX6_wake_17 : decode cX6_wake 17 = .ok (.getfield 32, 3) := by decide +kernel
theorem dX6_wake_20 : decode cX6_wake 20 = .ok (.if_icmp .ge 19, 3) := by decide +kernel
theorem dX6_wake_23 : decode cX6_wake 23 = .ok (.aload_n 0, 1) := by decide +kernel
theorem dX6_wake_24 : decode cX6_wake 24 = .ok (.getfield 14, 3) := by decide +kernel
theorem dX6_wake_27 : decode cX6_wake 27 = .ok (.iload_n 1, 1) := by decide +kernel
theorem dX6_wake_28 : decode cX6_wake 28 = .ok (.iconst 1, 1) := by decide +kernel
theorem dX6_wake_29 : decode cX6_wake 29 = .ok (.iconst 0, 1) := by decide +kernel
theorem dX6_wake_30 : decode cX6_wake 30 = .ok (.invokevirtual 43, 3) := by decide +kernel
theorem dX6_wake_33 : decode cX6_wake 33 = .ok (.iinc 1 1, 3) := by decide +kernel
theorem dX6_wake_36 : decode cX6_wake 36 = .ok (.goto (-24), 3) := by decide +kernel
theorem dX6_wake_39 : decode cX6_wake 39 = .ok (.return_, 1) := by decide +kernel
theorem dX6_valueNow_0 : decode cX6_valueNow 0 = .ok (.aload_n 0, 1) := by decide +kernel
theorem dX6_valueNow_1 : decode cX6_valueNow 1 = .ok (.iload_n 1, 1) := by decide +kernel
theorem dX6_valueNow_2 : decode cX6_valueNow 2 = .ok (.aload_n 0, 1) := by decide +kernel
theorem dX6_valueNow_3 : decode cX6_valueNow 3 = .ok (.getfield 47, 3) := by decide +kernel
theorem dX6_valueNow_6 : decode cX6_valueNow 6 = .ok (.invokevirtual 58, 3) := by decide +kernel
theorem dX6_valueNow_9 : decode cX6_valueNow 9 = .ok (.ireturn, 1) := by decide +kernel
theorem dX6_valueOn_0 : decode cX6_valueOn 0 = .ok (.aload_n 0, 1) := by decide +kernel
theorem dX6_valueOn_1 : decode cX6_valueOn 1 = .ok (.getfield 20, 3) := by decide +kernel
theorem dX6_valueOn_4 : decode cX6_valueOn 4 = .ok (.iload_n 1, 1) := by decide +kernel
theorem dX6_valueOn_5 : decode cX6_valueOn 5 = .ok (.iconst 2, 1) := by decide +kernel
theorem dX6_valueOn_6 : decode cX6_valueOn 6 = .ok (.invokevirtual 62, 3) := by decide +kernel
theorem dX6_valueOn_9 : decode cX6_valueOn 9 = .ok (.iconst (-1), 1) := by decide +kernel
theorem dX6_valueOn_10 : decode cX6_valueOn 10 = .ok (.if_icmp .ne 5, 3) := by decide +kernel
theorem dX6_valueOn_13 : decode cX6_valueOn 13 = .ok (.iconst 0, 1) := by decide +kernel
theorem dX6_valueOn_14 : decode cX6_valueOn 14 = .ok (.ireturn, 1) := by decide +kernel
theorem dX6_valueOn_15 : decode cX6_valueOn 15 = .ok (.aload_n 0, 1) := by decide +kernel
theorem dX6_valueOn_16 : decode cX6_valueOn 16 = .ok (.getfield 20, 3) := by decide +kernel
theorem dX6_valueOn_19 : decode cX6_valueOn 19 = .ok (.iload_n 1, 1) := by decide +kernel
theorem dX6_valueOn_20 : decode cX6_valueOn 20 = .ok (.iconst 4, 1) := by decide +kernel
theorem dX6_valueOn_21 : decode cX6_valueOn 21 = .ok (.invokevirtual 62, 3) := by decide +kernel
theorem dX6_valueOn_24 : decode cX6_valueOn 24 = .ok (.istore_n 3, 1) := by decide +kernel
theorem dX6_valueOn_25 : decode cX6_valueOn 25 = .ok (.aload_n 0, 1) := by decide +kernel
theorem dX6_valueOn_26 : decode cX6_valueOn 26 = .ok (.getfield 20, 3) := by decide +kernel
theorem dX6_valueOn_29 : decode cX6_valueOn 29 = .ok (.iload_n 1, 1) := by decide +kernel
theorem dX6_valueOn_30 : decode cX6_valueOn 30 = .ok (.iconst 5, 1) := by decide +kernel
theorem dX6_valueOn_31 : decode cX6_valueOn 31 = .ok (.invokevirtual 62, 3) := by decide +kernel
theorem dX6_valueOn_34 : decode cX6_valueOn 34 = .ok (.istore 4, 2) := by decide +kernel
theorem dX6_valueOn_36 : decode cX6_valueOn 36 = .ok (.iload_n 2, 1) := by decide +kernel
theorem dX6_valueOn_37 : decode cX6_valueOn 37 = .ok (.iload 4, 2) := by decide +kernel
theorem dX6_valueOn_39 : decode cX6_valueOn 39 = .ok (.if_icmp .gt 7, 3) := by decide +kernel
theorem dX6_valueOn_42 : decode cX6_valueOn 42 = .ok (.iload_n 3, 1) := by decide +kernel
theorem dX6_valueOn_43 : decode cX6_valueOn 43 = .ok (.goto 4, 3) := by decide +kernel
theorem dX6_valueOn_46 : decode cX6_valueOn 46 = .ok (.iconst 0, 1) := by decide +kernel
theorem dX6_valueOn_47 : decode cX6_valueOn 47 = .ok (.istore 5, 2) := by decide +kernel
theorem dX6_valueOn_49 : decode cX6_valueOn 49 = .ok (.iconst 0, 1) := by decide +kernel
theorem dX6_valueOn_50 : decode cX6_valueOn 50 = .ok (.iload_n 2, 1) := by decide +kernel
theorem dX6_valueOn_51 : decode cX6_valueOn 51 = .ok (.aload_n 0, 1) := by decide +kernel
theorem dX6_valueOn_52 : decode cX6_valueOn 52 = .ok (.getfield 20, 3) := by decide +kernel
theorem dX6_valueOn_55 : decode cX6_valueOn 55 = .ok (.iload_n 1, 1) := by decide +kernel
theorem dX6_valueOn_56 : decode cX6_valueOn 56 = .ok (.bipush 6, 2) := by decide +kernel
theorem dX6_valueOn_58 : decode cX6_valueOn 58 = .ok (.invokevirtual 62, 3) := by decide +kernel
theorem dX6_valueOn_61 : decode cX6_valueOn 61 = .ok (.isub, 1) := by decide +kernel
theorem dX6_valueOn_62 : decode cX6_valueOn 62 = .ok (.invokestatic 65, 3) := by decide +kernel
theorem dX6_valueOn_65 : decode cX6_valueOn 65 = .ok (.istore 6, 2) := by decide +kernel
theorem dX6_valueOn_67 : decode cX6_valueOn 67 = .ok (.aload_n 0, 1) := by decide +kernel
theorem dX6_valueOn_68 : decode cX6_valueOn 68 = .ok (.getfield 20, 3) := by decide +kernel
theorem dX6_valueOn_71 : decode cX6_valueOn 71 = .ok (.iload_n 1, 1) := by decide +kernel
theorem dX6_valueOn_72 : decode cX6_valueOn 72 = .ok (.iconst 0, 1) := by decide +kernel
theorem dX6_valueOn_73 : decode cX6_valueOn 73 = .ok (.invokevirtual 62, 3) := by decide +kernel
theorem dX6_valueOn_76 : decode cX6_valueOn 76 = .ok (.tableswitch 80 1 4 #[32, 42, 56, 68], 32) := by decide +kernel
theorem dX6_valueOn_108 : decode cX6_valueOn 108 = .ok (.iconst 0, 1) := by decide +kernel
theorem dX6_valueOn_109 : decode cX6_valueOn 109 = .ok (.iload 5, 2) := by decide +kernel
theorem dX6_valueOn_111 : decode cX6_valueOn 111 = .ok (.iload 6, 2) := by decide +kernel
theorem dX6_valueOn_113 : decode cX6_valueOn 113 = .ok (.isub, 1) := by decide +kernel
theorem dX6_valueOn_114 : decode cX6_valueOn 114 = .ok (.invokestatic 65, 3) := by decide +kernel
theorem dX6_valueOn_117 : decode cX6_valueOn 117 = .ok (.ireturn, 1) := by decide +kernel
theorem dX6_valueOn_118 : decode cX6_valueOn 118 = .ok (.iload_n 3, 1) := by decide +kernel
theorem dX6_valueOn_119 : decode cX6_valueOn 119 = .ok (.iconst 0, 1) := by decide +kernel
theorem dX6_valueOn_120 : decode cX6_valueOn 120 = .ok (.iload_n 2, 1) := by decide +kernel
theorem dX6_valueOn_121 : decode cX6_valueOn 121 = .ok (.iload 4, 2) := by decide +kernel
theorem dX6_valueOn_123 : decode cX6_valueOn 123 = .ok (.isub, 1) := by decide +kernel
theorem dX6_valueOn_124 : decode cX6_valueOn 124 = .ok (.invokestatic 65, 3) := by decide +kernel
theorem dX6_valueOn_127 : decode cX6_valueOn 127 = .ok (.bipush 10, 2) := by decide +kernel
theorem dX6_valueOn_129 : decode cX6_valueOn 129 = .ok (.idiv, 1) := by decide +kernel
theorem dX6_valueOn_130 : decode cX6_valueOn 130 = .ok (.iadd, 1) := by decide +kernel
theorem dX6_valueOn_131 : decode cX6_valueOn 131 = .ok (.ireturn, 1) := by decide +kernel
theorem dX6_valueOn_132 : decode cX6_valueOn 132 = .ok (.iload_n 2, 1) := by decide +kernel
theorem dX6_valueOn_133 : decode cX6_valueOn 133 = .ok (.iload 4, 2) := by decide +kernel
theorem dX6_valueOn_135 : decode cX6_valueOn 135 = .ok (.if_icmp .ge 7, 3) := by decide +kernel
theorem dX6_valueOn_138 : decode cX6_valueOn 138 = .ok (.iconst 0, 1) := by decide +kernel
theorem dX6_valueOn_139 : decode cX6_valueOn 139 = .ok (.goto 4, 3) := by decide +kernel
theorem dX6_valueOn_142 : decode cX6_valueOn 142 = .ok (.iload_n 3, 1) := by decide +kernel
theorem dX6_valueOn_143 : decode cX6_valueOn 143 = .ok (.ireturn, 1) := by decide +kernel
theorem dX6_valueOn_144 : decode cX6_valueOn 144 = .ok (.iconst 0, 1) := by decide +kernel
theorem dX6_valueOn_145 : decode cX6_valueOn 145 = .ok (.iload 5, 2) := by decide +kernel
theorem dX6_valueOn_147 : decode cX6_valueOn 147 = .ok (.iconst 2, 1) := by decide +kernel
theorem dX6_valueOn_148 : decode cX6_valueOn 148 = .ok (.iload 6, 2) := by decide +kernel
theorem dX6_valueOn_150 : decode cX6_valueOn 150 = .ok (.imul, 1) := by decide +kernel
theorem dX6_valueOn_151 : decode cX6_valueOn 151 = .ok (.isub, 1) := by decide +kernel
theorem dX6_valueOn_152 : decode cX6_valueOn 152 = .ok (.invokestatic 65, 3) := by decide +kernel
theorem dX6_valueOn_155 : decode cX6_valueOn 155 = .ok (.ireturn, 1) := by decide +kernel
theorem dX6_valueOn_156 : decode cX6_valueOn 156 = .ok (.iload 5, 2) := by decide +kernel
theorem dX6_valueOn_158 : decode cX6_valueOn 158 = .ok (.ireturn, 1) := by decide +kernel
theorem dX6_areAlike_0 : decode cX6_areAlike 0 = .ok (.aload_n 0, 1) := by decide +kernel
theorem dX6_areAlike_1 : decode cX6_areAlike 1 = .ok (.getfield 20, 3) := by decide +kernel
theorem dX6_areAlike_4 : decode cX6_areAlike 4 = .ok (.iload_n 1, 1) := by decide +kernel
theorem dX6_areAlike_5 : decode cX6_areAlike 5 = .ok (.iconst 1, 1) := by decide +kernel
theorem dX6_areAlike_6 : decode cX6_areAlike 6 = .ok (.invokevirtual 62, 3) := by decide +kernel
theorem dX6_areAlike_9 : decode cX6_areAlike 9 = .ok (.aload_n 0, 1) := by decide +kernel
theorem dX6_areAlike_10 : decode cX6_areAlike 10 = .ok (.getfield 20, 3) := by decide +kernel
theorem dX6_areAlike_13 : decode cX6_areAlike 13 = .ok (.iload_n 2, 1) := by decide +kernel
theorem dX6_areAlike_14 : decode cX6_areAlike 14 = .ok (.iconst 1, 1) := by decide +kernel
theorem dX6_areAlike_15 : decode cX6_areAlike 15 = .ok (.invokevirtual 62, 3) := by decide +kernel
theorem dX6_areAlike_18 : decode cX6_areAlike 18 = .ok (.if_icmp .ne 49, 3) := by decide +kernel
theorem dX6_areAlike_21 : decode cX6_areAlike 21 = .ok (.aload_n 0, 1) := by decide +kernel
theorem dX6_areAlike_22 : decode cX6_areAlike 22 = .ok (.getfield 20, 3) := by decide +kernel
theorem dX6_areAlike_25 : decode cX6_areAlike 25 = .ok (.iload_n 1, 1) := by decide +kernel
theorem dX6_areAlike_26 : decode cX6_areAlike 26 = .ok (.iconst 2, 1) := by decide +kernel
theorem dX6_areAlike_27 : decode cX6_areAlike 27 = .ok (.invokevirtual 62, 3) := by decide +kernel
theorem dX6_areAlike_30 : decode cX6_areAlike 30 = .ok (.aload_n 0, 1) := by decide +kernel
theorem dX6_areAlike_31 : decode cX6_areAlike 31 = .ok (.getfield 20, 3) := by decide +kernel
theorem dX6_areAlike_34 : decode cX6_areAlike 34 = .ok (.iload_n 2, 1) := by decide +kernel
theorem dX6_areAlike_35 : decode cX6_areAlike 35 = .ok (.iconst 2, 1) := by decide +kernel
theorem dX6_areAlike_36 : decode cX6_areAlike 36 = .ok (.invokevirtual 62, 3) := by decide +kernel
theorem dX6_areAlike_39 : decode cX6_areAlike 39 = .ok (.if_icmp .ne 28, 3) := by decide +kernel
theorem dX6_areAlike_42 : decode cX6_areAlike 42 = .ok (.aload_n 0, 1) := by decide +kernel
theorem dX6_areAlike_43 : decode cX6_areAlike 43 = .ok (.getfield 20, 3) := by decide +kernel
theorem dX6_areAlike_46 : decode cX6_areAlike 46 = .ok (.iload_n 1, 1) := by decide +kernel
theorem dX6_areAlike_47 : decode cX6_areAlike 47 = .ok (.iconst 3, 1) := by decide +kernel
theorem dX6_areAlike_48 : decode cX6_areAlike 48 = .ok (.invokevirtual 62, 3) := by decide +kernel
theorem dX6_areAlike_51 : decode cX6_areAlike 51 = .ok (.aload_n 0, 1) := by decide +kernel
theorem dX6_areAlike_52 : decode cX6_areAlike 52 = .ok (.getfield 20, 3) := by decide +kernel
theorem dX6_areAlike_55 : decode cX6_areAlike 55 = .ok (.iload_n 2, 1) := by decide +kernel
theorem dX6_areAlike_56 : decode cX6_areAlike 56 = .ok (.iconst 3, 1) := by decide +kernel
theorem dX6_areAlike_57 : decode cX6_areAlike 57 = .ok (.invokevirtual 62, 3) := by decide +kernel
theorem dX6_areAlike_60 : decode cX6_areAlike 60 = .ok (.if_icmp .ne 7, 3) := by decide +kernel
theorem dX6_areAlike_63 : decode cX6_areAlike 63 = .ok (.iconst 1, 1) := by decide +kernel
theorem dX6_areAlike_64 : decode cX6_areAlike 64 = .ok (.goto 4, 3) := by decide +kernel
theorem dX6_areAlike_67 : decode cX6_areAlike 67 = .ok (.iconst 0, 1) := by decide +kernel
theorem dX6_areAlike_68 : decode cX6_areAlike 68 = .ok (.ireturn, 1) := by decide +kernel
theorem dX6_merge_0 : decode cX6_merge 0 = .ok (.bipush 40, 2) := by decide +kernel
theorem dX6_merge_2 : decode cX6_merge 2 = .ok (.aload_n 0, 1) := by decide +kernel
theorem dX6_merge_3 : decode cX6_merge 3 = .ok (.getfield 20, 3) := by decide +kernel
theorem dX6_merge_6 : decode cX6_merge 6 = .ok (.iload_n 1, 1) := by decide +kernel
theorem dX6_merge_7 : decode cX6_merge 7 = .ok (.iconst 4, 1) := by decide +kernel
theorem dX6_merge_8 : decode cX6_merge 8 = .ok (.invokevirtual 62, 3) := by decide +kernel
theorem dX6_merge_11 : decode cX6_merge 11 = .ok (.aload_n 0, 1) := by decide +kernel
theorem dX6_merge_12 : decode cX6_merge 12 = .ok (.getfield 20, 3) := by decide +kernel
theorem dX6_merge_15 : decode cX6_merge 15 = .ok (.iload_n 2, 1) := by decide +kernel
theorem dX6_merge_16 : decode cX6_merge 16 = .ok (.iconst 4, 1) := by decide +kernel
theorem dX6_merge_17 : decode cX6_merge 17 = .ok (.invokevirtual 62, 3) := by decide +kernel
theorem dX6_merge_20 : decode cX6_merge 20 = .ok (.iadd, 1) := by decide +kernel
theorem dX6_merge_21 : decode cX6_merge 21 = .ok (.invokestatic 70, 3) := by decide +kernel
theorem dX6_merge_24 : decode cX6_merge 24 = .ok (.istore_n 3, 1) := by decide +kernel
theorem dX6_merge_25 : decode cX6_merge 25 = .ok (.aload_n 0, 1) := by decide +kernel
theorem dX6_merge_26 : decode cX6_merge 26 = .ok (.getfield 20, 3) := by decide +kernel
theorem dX6_merge_29 : decode cX6_merge 29 = .ok (.iload_n 1, 1) := by decide +kernel
theorem dX6_merge_30 : decode cX6_merge 30 = .ok (.iconst 4, 1) := by decide +kernel
theorem dX6_merge_31 : decode cX6_merge 31 = .ok (.iload_n 3, 1) := by decide +kernel
theorem dX6_merge_32 : decode cX6_merge 32 = .ok (.invokevirtual 43, 3) := by decide +kernel
theorem dX6_merge_35 : decode cX6_merge 35 = .ok (.aload_n 0, 1) := by decide +kernel
theorem dX6_merge_36 : decode cX6_merge 36 = .ok (.getfield 20, 3) := by decide +kernel
theorem dX6_merge_39 : decode cX6_merge 39 = .ok (.iload_n 1, 1) := by decide +kernel
theorem dX6_merge_40 : decode cX6_merge 40 = .ok (.iconst 5, 1) := by decide +kernel
theorem dX6_merge_41 : decode cX6_merge 41 = .ok (.aload_n 0, 1) := by decide +kernel
theorem dX6_merge_42 : decode cX6_merge 42 = .ok (.getfield 20, 3) := by decide +kernel
theorem dX6_merge_45 : decode cX6_merge 45 = .ok (.iload_n 1, 1) := by decide +kernel
theorem dX6_merge_46 : decode cX6_merge 46 = .ok (.iconst 5, 1) := by decide +kernel
theorem dX6_merge_47 : decode cX6_merge 47 = .ok (.invokevirtual 62, 3) := by decide +kernel
theorem dX6_merge_50 : decode cX6_merge 50 = .ok (.aload_n 0, 1) := by decide +kernel
theorem dX6_merge_51 : decode cX6_merge 51 = .ok (.getfield 20, 3) := by decide +kernel
theorem dX6_merge_54 : decode cX6_merge 54 = .ok (.iload_n 2, 1) := by decide +kernel
theorem dX6_merge_55 : decode cX6_merge 55 = .ok (.iconst 5, 1) := by decide +kernel
theorem dX6_merge_56 : decode cX6_merge 56 = .ok (.invokevirtual 62, 3) := by decide +kernel
theorem dX6_merge_59 : decode cX6_merge 59 = .ok (.invokestatic 70, 3) := by decide +kernel
theorem dX6_merge_62 : decode cX6_merge 62 = .ok (.invokevirtual 43, 3) := by decide +kernel
theorem dX6_merge_65 : decode cX6_merge 65 = .ok (.aload_n 0, 1) := by decide +kernel
theorem dX6_merge_66 : decode cX6_merge 66 = .ok (.getfield 20, 3) := by decide +kernel
theorem dX6_merge_69 : decode cX6_merge 69 = .ok (.iload_n 2, 1) := by decide +kernel
theorem dX6_merge_70 : decode cX6_merge 70 = .ok (.iconst 2, 1) := by decide +kernel
theorem dX6_merge_71 : decode cX6_merge 71 = .ok (.iconst (-1), 1) := by decide +kernel
theorem dX6_merge_72 : decode cX6_merge 72 = .ok (.invokevirtual 43, 3) := by decide +kernel
theorem dX6_merge_75 : decode cX6_merge 75 = .ok (.iload_n 3, 1) := by decide +kernel
theorem dX6_merge_76 : decode cX6_merge 76 = .ok (.ireturn, 1) := by decide +kernel
theorem dX6_cheapest_0 : decode cX6_cheapest 0 = .ok (.iconst (-1), 1) := by decide +kernel
theorem dX6_cheapest_1 : decode cX6_cheapest 1 = .ok (.istore_n 3, 1) := by decide +kernel
theorem dX6_cheapest_2 : decode cX6_cheapest 2 = .ok (.iconst 0, 1) := by decide +kernel
theorem dX6_cheapest_3 : decode cX6_cheapest 3 = .ok (.istore 4, 2) := by decide +kernel
theorem dX6_cheapest_5 : decode cX6_cheapest 5 = .ok (.iload 4, 2) := by decide +kernel
theorem dX6_cheapest_7 : decode cX6_cheapest 7 = .ok (.aload_n 0, 1) := by decide +kernel
theorem dX6_cheapest_8 : decode cX6_cheapest 8 = .ok (.getfield 20, 3) := by decide +kernel
theorem dX6_cheapest_11 : decode cX6_cheapest 11 = .ok (.getfield 32, 3) := by decide +kernel
theorem dX6_cheapest_14 : decode cX6_cheapest 14 = .ok (.if_icmp .ge 80, 3) := by decide +kernel
theorem dX6_cheapest_17 : decode cX6_cheapest 17 = .ok (.aload_n 0, 1) := by decide +kernel
theorem dX6_cheapest_18 : decode cX6_cheapest 18 = .ok (.getfield 20, 3) := by decide +kernel
theorem dX6_cheapest_21 : decode cX6_cheapest 21 = .ok (.iload 4, 2) := by decide +kernel
theorem dX6_cheapest_23 : decode cX6_cheapest 23 = .ok (.iconst 1, 1) := by decide +kernel
theorem dX6_cheapest_24 : decode cX6_cheapest 24 = .ok (.invokevirtual 62, 3) := by decide +kernel
theorem dX6_cheapest_27 : decode cX6_cheapest 27 = .ok (.iload_n 1, 1) := by decide +kernel
theorem dX6_cheapest_28 : decode cX6_cheapest 28 = .ok (.if_icmp .ne 30, 3) := by decide +kernel
theorem dX6_cheapest_31 : decode cX6_cheapest 31 = .ok (.aload_n 0, 1) := by decide +kernel
theorem dX6_cheapest_32 : decode cX6_cheapest 32 = .ok (.getfield 20, 3) := by decide +kernel
theorem dX6_cheapest_35 : decode cX6_cheapest 35 = .ok (.iload 4, 2) := by decide +kernel
theorem dX6_cheapest_37 : decode cX6_cheapest 37 = .ok (.iconst 2, 1) := by decide +kernel
theorem dX6_cheapest_38 : decode cX6_cheapest 38 = .ok (.invokevirtual 62, 3) := by decide +kernel
theorem dX6_cheapest_41 : decode cX6_cheapest 41 = .ok (.iload_n 2, 1) := by decide +kernel
theorem dX6_cheapest_42 : decode cX6_cheapest 42 = .ok (.if_icmp .ne 16, 3) := by decide +kernel
theorem dX6_cheapest_45 : decode cX6_cheapest 45 = .ok (.aload_n 0, 1) := by decide +kernel
theorem dX6_cheapest_46 : decode cX6_cheapest 46 = .ok (.iload 4, 2) := by decide +kernel
theorem dX6_cheapest_48 : decode cX6_cheapest 48 = .ok (.invokevirtual 73, 3) := by decide +kernel
theorem dX6_cheapest_51 : decode cX6_cheapest 51 = .ok (.ifCond .le 7, 3) := by decide +kernel
theorem dX6_cheapest_54 : decode cX6_cheapest 54 = .ok (.iconst 1, 1) := by decide +kernel
theorem dX6_cheapest_55 : decode cX6_cheapest 55 = .ok (.goto 4, 3) := by decide +kernel
theorem dX6_cheapest_58 : decode cX6_cheapest 58 = .ok (.iconst 0, 1) := by decide +kernel
theorem dX6_cheapest_59 : decode cX6_cheapest 59 = .ok (.istore 5, 2) := by decide +kernel
theorem dX6_cheapest_61 : decode cX6_cheapest 61 = .ok (.iload 5, 2) := by decide +kernel
theorem dX6_cheapest_63 : decode cX6_cheapest 63 = .ok (.ifCond .eq 25, 3) := by decide +kernel
theorem dX6_cheapest_66 : decode cX6_cheapest 66 = .ok (.iload_n 3, 1) := by decide +kernel
theorem dX6_cheapest_67 : decode cX6_cheapest 67 = .ok (.iconst (-1), 1) := by decide +kernel
theorem dX6_cheapest_68 : decode cX6_cheapest 68 = .ok (.if_icmp .eq 17, 3) := by decide +kernel
theorem dX6_cheapest_71 : decode cX6_cheapest 71 = .ok (.aload_n 0, 1) := by decide +kernel
theorem dX6_cheapest_72 : decode cX6_cheapest 72 = .ok (.iload 4, 2) := by decide +kernel
theorem dX6_cheapest_74 : decode cX6_cheapest 74 = .ok (.invokevirtual 73, 3) := by decide +kernel
theorem dX6_cheapest_77 : decode cX6_cheapest 77 = .ok (.aload_n 0, 1) := by decide +kernel
theorem dX6_cheapest_78 : decode cX6_cheapest 78 = .ok (.iload_n 3, 1) := by decide +kernel
theorem dX6_cheapest_79 : decode cX6_cheapest 79 = .ok (.invokevirtual 73, 3) := by decide +kernel
theorem dX6_cheapest_82 : decode cX6_cheapest 82 = .ok (.if_icmp .ge 6, 3) := by decide +kernel
theorem dX6_cheapest_85 : decode cX6_cheapest 85 = .ok (.iload 4, 2) := by decide +kernel
theorem dX6_cheapest_87 : decode cX6_cheapest 87 = .ok (.istore_n 3, 1) := by decide +kernel
theorem dX6_cheapest_88 : decode cX6_cheapest 88 = .ok (.iinc 4 1, 3) := by decide +kernel
theorem dX6_cheapest_91 : decode cX6_cheapest 91 = .ok (.goto (-86), 3) := by decide +kernel
theorem dX6_cheapest_94 : decode cX6_cheapest 94 = .ok (.iload_n 3, 1) := by decide +kernel
theorem dX6_cheapest_95 : decode cX6_cheapest 95 = .ok (.ireturn, 1) := by decide +kernel
theorem dX6_holderAhead_0 : decode cX6_holderAhead 0 = .ok (.aload_n 0, 1) := by decide +kernel
theorem dX6_holderAhead_1 : decode cX6_holderAhead 1 = .ok (.getfield 26, 3) := by decide +kernel
theorem dX6_holderAhead_4 : decode cX6_holderAhead 4 = .ok (.iload_n 1, 1) := by decide +kernel
theorem dX6_holderAhead_5 : decode cX6_holderAhead 5 = .ok (.iconst 0, 1) := by decide +kernel
theorem dX6_holderAhead_6 : decode cX6_holderAhead 6 = .ok (.invokevirtual 62, 3) := by decide +kernel
theorem dX6_holderAhead_9 : decode cX6_holderAhead 9 = .ok (.istore_n 2, 1) := by decide +kernel
theorem dX6_holderAhead_10 : decode cX6_holderAhead 10 = .ok (.aload_n 0, 1) := by decide +kernel
theorem dX6_holderAhead_11 : decode cX6_holderAhead 11 = .ok (.getfield 20, 3) := by decide +kernel
theorem dX6_holderAhead_14 : decode cX6_holderAhead 14 = .ok (.iload_n 2, 1) := by decide +kernel
theorem dX6_holderAhead_15 : decode cX6_holderAhead 15 = .ok (.iconst 2, 1) := by decide +kernel
theorem dX6_holderAhead_16 : decode cX6_holderAhead 16 = .ok (.invokevirtual 62, 3) := by decide +kernel
theorem dX6_holderAhead_19 : decode cX6_holderAhead 19 = .ok (.istore_n 3, 1) := by decide +kernel
theorem dX6_holderAhead_20 : decode cX6_holderAhead 20 = .ok (.iconst 0, 1) := by decide +kernel
theorem dX6_holderAhead_21 : decode cX6_holderAhead 21 = .ok (.istore 4, 2) := by decide +kernel
theorem dX6_holderAhead_23 : decode cX6_holderAhead 23 = .ok (.iload 4, 2) := by decide +kernel
theorem dX6_holderAhead_25 : decode cX6_holderAhead 25 = .ok (.iload_n 1, 1) := by decide +kernel
theorem dX6_holderAhead_26 : decode cX6_holderAhead 26 = .ok (.if_icmp .ge 61, 3) := by decide +kernel
theorem dX6_holderAhead_29 : decode cX6_holderAhead 29 = .ok (.aload_n 0, 1) := by decide +kernel
theorem dX6_holderAhead_30 : decode cX6_holderAhead 30 = .ok (.getfield 26, 3) := by decide +kernel
theorem dX6_holderAhead_33 : decode cX6_holderAhead 33 = .ok (.iload 4, 2) := by decide +kernel
theorem dX6_holderAhead_35 : decode cX6_holderAhead 35 = .ok (.iconst 0, 1) := by decide +kernel
theorem dX6_holderAhead_36 : decode cX6_holderAhead 36 = .ok (.invokevirtual 62, 3) := by decide +kernel
theorem dX6_holderAhead_39 : decode cX6_holderAhead 39 = .ok (.iload_n 2, 1) := by decide +kernel
theorem dX6_holderAhead_40 : decode cX6_holderAhead 40 = .ok (.if_icmp .ne 41, 3) := by decide +kernel
theorem dX6_holderAhead_43 : decode cX6_holderAhead 43 = .ok (.iload_n 3, 1) := by decide +kernel
theorem dX6_holderAhead_44 : decode cX6_holderAhead 44 = .ok (.iconst (-1), 1) := by decide +kernel
theorem dX6_holderAhead_45 : decode cX6_holderAhead 45 = .ok (.if_icmp .eq 36, 3) := by decide +kernel
theorem dX6_holderAhead_48 : decode cX6_holderAhead 48 = .ok (.aload_n 0, 1) := by decide +kernel
theorem dX6_holderAhead_49 : decode cX6_holderAhead 49 = .ok (.getfield 26, 3) := by decide +kernel
theorem dX6_holderAhead_52 : decode cX6_holderAhead 52 = .ok (.iload 4, 2) := by decide +kernel
theorem dX6_holderAhead_54 : decode cX6_holderAhead 54 = .ok (.iconst 2, 1) := by decide +kernel
theorem dX6_holderAhead_55 : decode cX6_holderAhead 55 = .ok (.invokevirtual 62, 3) := by decide +kernel
theorem dX6_holderAhead_58 : decode cX6_holderAhead 58 = .ok (.istore 5, 2) := by decide +kernel
theorem dX6_holderAhead_60 : decode cX6_holderAhead 60 = .ok (.iload 5, 2) := by decide +kernel
theorem dX6_holderAhead_62 : decode cX6_holderAhead 62 = .ok (.aload_n 0, 1) := by decide +kernel
theorem dX6_holderAhead_63 : decode cX6_holderAhead 63 = .ok (.getfield 20, 3) := by decide +kernel
theorem dX6_holderAhead_66 : decode cX6_holderAhead 66 = .ok (.iload_n 2, 1) := by decide +kernel
theorem dX6_holderAhead_67 : decode cX6_holderAhead 67 = .ok (.iconst 1, 1) := by decide +kernel
theorem dX6_holderAhead_68 : decode cX6_holderAhead 68 = .ok (.invokevirtual 62, 3) := by decide +kernel
theorem dX6_holderAhead_71 : decode cX6_holderAhead 71 = .ok (.if_icmp .ne 7, 3) := by decide +kernel
theorem dX6_holderAhead_74 : decode cX6_holderAhead 74 = .ok (.iconst (-1), 1) := by decide +kernel
theorem dX6_holderAhead_75 : decode cX6_holderAhead 75 = .ok (.goto 5, 3) := by decide +kernel
theorem dX6_holderAhead_78 : decode cX6_holderAhead 78 = .ok (.iload 5, 2) := by decide +kernel
theorem dX6_holderAhead_80 : decode cX6_holderAhead 80 = .ok (.istore_n 3, 1) := by decide +kernel
theorem dX6_holderAhead_81 : decode cX6_holderAhead 81 = .ok (.iinc 4 1, 3) := by decide +kernel
theorem dX6_holderAhead_84 : decode cX6_holderAhead 84 = .ok (.goto (-61), 3) := by decide +kernel
theorem dX6_holderAhead_87 : decode cX6_holderAhead 87 = .ok (.iload_n 3, 1) := by decide +kernel
theorem dX6_holderAhead_88 : decode cX6_holderAhead 88 = .ok (.ireturn, 1) := by decide +kernel
theorem dX6_rateNow_0 : decode cX6_rateNow 0 = .ok (.aload_n 0, 1) := by decide +kernel
theorem dX6_rateNow_1 : decode cX6_rateNow 1 = .ok (.getfield 29, 3) := by decide +kernel
theorem dX6_rateNow_4 : decode cX6_rateNow 4 = .ok (.iload_n 1, 1) := by decide +kernel
theorem dX6_rateNow_5 : decode cX6_rateNow 5 = .ok (.iconst 0, 1) := by decide +kernel
theorem dX6_rateNow_6 : decode cX6_rateNow 6 = .ok (.invokevirtual 62, 3) := by decide +kernel
theorem dX6_rateNow_9 : decode cX6_rateNow 9 = .ok (.ireturn, 1) := by decide +kernel
theorem dX6_setRate_0 : decode cX6_setRate 0 = .ok (.aload_n 0, 1) := by decide +kernel
theorem dX6_setRate_1 : decode cX6_setRate 1 = .ok (.getfield 29, 3) := by decide +kernel
theorem dX6_setRate_4 : decode cX6_setRate 4 = .ok (.iload_n 1, 1) := by decide +kernel
theorem dX6_setRate_5 : decode cX6_setRate 5 = .ok (.iconst 0, 1) := by decide +kernel
theorem dX6_setRate_6 : decode cX6_setRate 6 = .ok (.iload_n 2, 1) := by decide +kernel
theorem dX6_setRate_7 : decode cX6_setRate 7 = .ok (.invokevirtual 43, 3) := by decide +kernel
theorem dX6_setRate_10 : decode cX6_setRate 10 = .ok (.return_, 1) := by decide +kernel
theorem dX6_drift_0 : decode cX6_drift 0 = .ok (.iconst 0, 1) := by decide +kernel
theorem dX6_drift_1 : decode cX6_drift 1 = .ok (.istore_n 2, 1) := by decide +kernel
theorem dX6_drift_2 : decode cX6_drift 2 = .ok (.iconst 0, 1) := by decide +kernel
theorem dX6_drift_3 : decode cX6_drift 3 = .ok (.istore_n 3, 1) := by decide +kernel
theorem dX6_drift_4 : decode cX6_drift 4 = .ok (.iload_n 3, 1) := by decide +kernel
theorem dX6_drift_5 : decode cX6_drift 5 = .ok (.aload_n 0, 1) := by decide +kernel
theorem dX6_drift_6 : decode cX6_drift 6 = .ok (.getfield 23, 3) := by decide +kernel
theorem dX6_drift_9 : decode cX6_drift 9 = .ok (.getfield 32, 3) := by decide +kernel
theorem dX6_drift_12 : decode cX6_drift 12 = .ok (.if_icmp .ge 25, 3) := by decide +kernel
theorem dX6_drift_15 : decode cX6_drift 15 = .ok (.aload_n 0, 1) := by decide +kernel
theorem dX6_drift_16 : decode cX6_drift 16 = .ok (.getfield 23, 3) := by decide +kernel
theorem dX6_drift_19 : decode cX6_drift 19 = .ok (.iload_n 3, 1) := by decide +kernel
theorem dX6_drift_20 : decode cX6_drift 20 = .ok (.iconst 1, 1) := by decide +kernel
theorem dX6_drift_21 : decode cX6_drift 21 = .ok (.invokevirtual 62, 3) := by decide +kernel
theorem dX6_drift_24 : decode cX6_drift 24 = .ok (.iload_n 1, 1) := by decide +kernel
theorem dX6_drift_25 : decode cX6_drift 25 = .ok (.if_icmp .ne 6, 3) := by decide +kernel
theorem dX6_drift_28 : decode cX6_drift 28 = .ok (.iinc 2 1, 3) := by decide +kernel
theorem dX6_drift_31 : decode cX6_drift 31 = .ok (.iinc 3 1, 3) := by decide +kernel
theorem dX6_drift_34 : decode cX6_drift 34 = .ok (.goto (-30), 3) := by decide +kernel
theorem dX6_drift_37 : decode cX6_drift 37 = .ok (.iconst 0, 1) := by decide +kernel
theorem dX6_drift_38 : decode cX6_drift 38 = .ok (.istore_n 3, 1) := by decide +kernel
theorem dX6_drift_39 : decode cX6_drift 39 = .ok (.iload_n 3, 1) := by decide +kernel
theorem dX6_drift_40 : decode cX6_drift 40 = .ok (.aload_n 0, 1) := by decide +kernel
theorem dX6_drift_41 : decode cX6_drift 41 = .ok (.getfield 20, 3) := by decide +kernel
theorem dX6_drift_44 : decode cX6_drift 44 = .ok (.getfield 32, 3) := by decide +kernel
theorem dX6_drift_47 : decode cX6_drift 47 = .ok (.if_icmp .ge 33, 3) := by decide +kernel
theorem dX6_drift_50 : decode cX6_drift 50 = .ok (.aload_n 0, 1) := by decide +kernel
theorem dX6_drift_51 : decode cX6_drift 51 = .ok (.getfield 20, 3) := by decide +kernel
theorem dX6_drift_54 : decode cX6_drift 54 = .ok (.iload_n 3, 1) := by decide +kernel
theorem dX6_drift_55 : decode cX6_drift 55 = .ok (.iconst 3, 1) := by decide +kernel
theorem dX6_drift_56 : decode cX6_drift 56 = .ok (.invokevirtual 62, 3) := by decide +kernel
theorem dX6_drift_59 : decode cX6_drift 59 = .ok (.iload_n 1, 1) := by decide +kernel
theorem dX6_drift_60 : decode cX6_drift 60 = .ok (.if_icmp .ne 14, 3) := by decide +kernel
theorem dX6_drift_63 : decode cX6_drift 63 = .ok (.aload_n 0, 1) := by decide +kernel
theorem dX6_drift_64 : decode cX6_drift 64 = .ok (.iload_n 3, 1) := by decide +kernel
theorem dX6_drift_65 : decode cX6_drift 65 = .ok (.invokevirtual 73, 3) := by decide +kernel
theorem dX6_drift_68 : decode cX6_drift 68 = .ok (.ifCond .le 6, 3) := by decide +kernel
theorem dX6_drift_71 : decode cX6_drift 71 = .ok (.iinc 2 (-1), 3) := by decide +kernel
theorem dX6_drift_74 : decode cX6_drift 74 = .ok (.iinc 3 1, 3) := by decide +kernel
theorem dX6_drift_77 : decode cX6_drift 77 = .ok (.goto (-38), 3) := by decide +kernel
theorem dX6_drift_80 : decode cX6_drift 80 = .ok (.iload_n 2, 1) := by decide +kernel
theorem dX6_drift_81 : decode cX6_drift 81 = .ok (.ireturn, 1) := by decide +kernel
theorem dX7_init_0 : decode cX7_init 0 = .ok (.aload_n 0, 1) := by decide +kernel
theorem dX7_init_1 : decode cX7_init 1 = .ok (.invokespecial 3, 3) := by decide +kernel
theorem dX7_init_4 : decode cX7_init 4 = .ok (.aload_n 0, 1) := by decide +kernel
theorem dX7_init_5 : decode cX7_init 5 = .ok (.iload_n 2, 1) := by decide +kernel
theorem dX7_init_6 : decode cX7_init 6 = .ok (.putfield 9, 3) := by decide +kernel
theorem dX7_init_9 : decode cX7_init 9 = .ok (.aload_n 0, 1) := by decide +kernel
theorem dX7_init_10 : decode cX7_init 10 = .ok (.iconst 0, 1) := by decide +kernel
theorem dX7_init_11 : decode cX7_init 11 = .ok (.iload_n 1, 1) := by decide +kernel
theorem dX7_init_12 : decode cX7_init 12 = .ok (.iload_n 2, 1) := by decide +kernel
theorem dX7_init_13 : decode cX7_init 13 = .ok (.imul, 1) := by decide +kernel
theorem dX7_init_14 : decode cX7_init 14 = .ok (.invokestatic 15, 3) := by decide +kernel
theorem dX7_init_17 : decode cX7_init 17 = .ok (.newarray .int, 2) := by decide +kernel
theorem dX7_init_19 : decode cX7_init 19 = .ok (.putfield 21, 3) := by decide +kernel
theorem dX7_init_22 : decode cX7_init 22 = .ok (.return_, 1) := by decide +kernel
theorem dX7_has_0 : decode cX7_has 0 = .ok (.iload_n 1, 1) := by decide +kernel
theorem dX7_has_1 : decode cX7_has 1 = .ok (.ifCond .lt 15, 3) := by decide +kernel
theorem dX7_has_4 : decode cX7_has 4 = .ok (.iload_n 1, 1) := by decide +kernel
theorem dX7_has_5 : decode cX7_has 5 = .ok (.aload_n 0, 1) := by decide +kernel
theorem dX7_has_6 : decode cX7_has 6 = .ok (.getfield 25, 3) := by decide +kernel
theorem dX7_has_9 : decode cX7_has 9 = .ok (.if_icmp .ge 7, 3) := by decide +kernel
theorem dX7_has_12 : decode cX7_has 12 = .ok (.iconst 1, 1) := by decide +kernel
theorem dX7_has_13 : decode cX7_has 13 = .ok (.goto 4, 3) := by decide +kernel
theorem dX7_has_16 : decode cX7_has 16 = .ok (.iconst 0, 1) := by decide +kernel
theorem dX7_has_17 : decode cX7_has 17 = .ok (.ireturn, 1) := by decide +kernel
theorem dX7_isFull_0 : decode cX7_isFull 0 = .ok (.aload_n 0, 1) := by decide +kernel
theorem dX7_isFull_1 : decode cX7_isFull 1 = .ok (.getfield 25, 3) := by decide +kernel
theorem dX7_isFull_4 : decode cX7_isFull 4 = .ok (.iconst 1, 1) := by decide +kernel
theorem dX7_isFull_5 : decode cX7_isFull 5 = .ok (.iadd, 1) := by decide +kernel
theorem dX7_isFull_6 : decode cX7_isFull 6 = .ok (.aload_n 0, 1) := by decide +kernel
theorem dX7_isFull_7 : decode cX7_isFull 7 = .ok (.getfield 9, 3) := by decide +kernel
theorem dX7_isFull_10 : decode cX7_isFull 10 = .ok (.imul, 1) := by decide +kernel
theorem dX7_isFull_11 : decode cX7_isFull 11 = .ok (.aload_n 0, 1) := by decide +kernel
theorem dX7_isFull_12 : decode cX7_isFull 12 = .ok (.getfield 21, 3) := by decide +kernel
theorem dX7_isFull_15 : decode cX7_isFull 15 = .ok (.arraylength, 1) := by decide +kernel
theorem dX7_isFull_16 : decode cX7_isFull 16 = .ok (.if_icmp .le 7, 3) := by decide +kernel
theorem dX7_isFull_19 : decode cX7_isFull 19 = .ok (.iconst 1, 1) := by decide +kernel
theorem dX7_isFull_20 : decode cX7_isFull 20 = .ok (.goto 4, 3) := by decide +kernel
theorem dX7_isFull_23 : decode cX7_isFull 23 = .ok (.iconst 0, 1) := by decide +kernel
theorem dX7_isFull_24 : decode cX7_isFull 24 = .ok (.ireturn, 1) := by decide +kernel
theorem dX7_at_0 : decode cX7_at 0 = .ok (.aload_n 0, 1) := by decide +kernel
theorem dX7_at_1 : decode cX7_at 1 = .ok (.iload_n 1, 1) := by decide +kernel
theorem dX7_at_2 : decode cX7_at 2 = .ok (.iload_n 2, 1) := by decide +kernel
theorem dX7_at_3 : decode cX7_at 3 = .ok (.invokevirtual 28, 3) := by decide +kernel
theorem dX7_at_6 : decode cX7_at 6 = .ok (.istore_n 3, 1) := by decide +kernel
theorem dX7_at_7 : decode cX7_at 7 = .ok (.iload_n 3, 1) := by decide +kernel
theorem dX7_at_8 : decode cX7_at 8 = .ok (.ifCond .lt 21, 3) := by decide +kernel
theorem dX7_at_11 : decode cX7_at 11 = .ok (.iload_n 3, 1) := by decide +kernel
theorem dX7_at_12 : decode cX7_at 12 = .ok (.aload_n 0, 1) := by decide +kernel
theorem dX7_at_13 : decode cX7_at 13 = .ok (.getfield 21, 3) := by decide +kernel
theorem dX7_at_16 : decode cX7_at 16 = .ok (.arraylength, 1) := by decide +kernel
theorem dX7_at_17 : decode cX7_at 17 = .ok (.if_icmp .ge 12, 3) := by decide +kernel
theorem dX7_at_20 : decode cX7_at 20 = .ok (.aload_n 0, 1) := by decide +kernel
theorem dX7_at_21 : decode cX7_at 21 = .ok (.getfield 21, 3) := by decide +kernel
theorem dX7_at_24 : decode cX7_at 24 = .ok (.iload_n 3, 1) := by decide +kernel
theorem dX7_at_25 : decode cX7_at 25 = .ok (.iaload, 1) := by decide +kernel
theorem dX7_at_26 : decode cX7_at 26 = .ok (.goto 4, 3) := by decide +kernel
theorem dX7_at_29 : decode cX7_at 29 = .ok (.iconst 0, 1) := by decide +kernel
theorem dX7_at_30 : decode cX7_at 30 = .ok (.ireturn, 1) := by decide +kernel
theorem dX7_put_0 : decode cX7_put 0 = .ok (.aload_n 0, 1) := by decide +kernel
theorem dX7_put_1 : decode cX7_put 1 = .ok (.iload_n 1, 1) := by decide +kernel
theorem dX7_put_2 : decode cX7_put 2 = .ok (.iload_n 2, 1) := by decide +kernel
theorem dX7_put_3 : decode cX7_put 3 = .ok (.invokevirtual 28, 3) := by decide +kernel
theorem dX7_put_6 : decode cX7_put 6 = .ok (.istore 4, 2) := by decide +kernel
theorem dX7_put_8 : decode cX7_put 8 = .ok (.iload 4, 2) := by decide +kernel
theorem dX7_put_10 : decode cX7_put 10 = .ok (.ifCond .lt 21, 3) := by decide +kernel
theorem dX7_put_13 : decode cX7_put 13 = .ok (.iload 4, 2) := by decide +kernel
theorem dX7_put_15 : decode cX7_put 15 = .ok (.aload_n 0, 1) := by decide +kernel
theorem dX7_put_16 : decode cX7_put 16 = .ok (.getfield 21, 3) := by decide +kernel
theorem dX7_put_19 : decode cX7_put 19 = .ok (.arraylength, 1) := by decide +kernel
theorem dX7_put_20 : decode cX7_put 20 = .ok (.if_icmp .ge 11, 3) := by decide +kernel
theorem dX7_put_23 : decode cX7_put 23 = .ok (.aload_n 0, 1) := by decide +kernel
theorem dX7_put_24 : decode cX7_put 24 = .ok (.getfield 21, 3) := by decide +kernel
theorem dX7_put_27 : decode cX7_put 27 = .ok (.iload 4, 2) := by decide +kernel
theorem dX7_put_29 : decode cX7_put 29 = .ok (.iload_n 3, 1) := by decide +kernel
theorem dX7_put_30 : decode cX7_put 30 = .ok (.iastore, 1) := by decide +kernel
theorem dX7_put_31 : decode cX7_put 31 = .ok (.return_, 1) := by decide +kernel
theorem dX7_more_0 : decode cX7_more 0 = .ok (.aload_n 0, 1) := by decide +kernel
theorem dX7_more_1 : decode cX7_more 1 = .ok (.iload_n 1, 1) := by decide +kernel
theorem dX7_more_2 : decode cX7_more 2 = .ok (.iload_n 2, 1) := by decide +kernel
theorem dX7_more_3 : decode cX7_more 3 = .ok (.aload_n 0, 1) := by decide +kernel
theorem dX7_more_4 : decode cX7_more 4 = .ok (.iload_n 1, 1) := by decide +kernel
theorem dX7_more_5 : decode cX7_more 5 = .ok (.iload_n 2, 1) := by decide +kernel
theorem dX7_more_6 : decode cX7_more 6 = .ok (.invokevirtual 31, 3) := by decide +kernel
theorem dX7_more_9 : decode cX7_more 9 = .ok (.iload_n 3, 1) := by decide +kernel
theorem dX7_more_10 : decode cX7_more 10 = .ok (.iadd, 1) := by decide +kernel
theorem dX7_more_11 : decode cX7_more 11 = .ok (.invokevirtual 34, 3) := by decide +kernel
theorem dX7_more_14 : decode cX7_more 14 = .ok (.return_, 1) := by decide +kernel
theorem dX7_fillRow_0 : decode cX7_fillRow 0 = .ok (.iconst 0, 1) := by decide +kernel
theorem dX7_fillRow_1 : decode cX7_fillRow 1 = .ok (.istore_n 3, 1) := by decide +kernel
theorem dX7_fillRow_2 : decode cX7_fillRow 2 = .ok (.iload_n 3, 1) := by decide +kernel
theorem dX7_fillRow_3 : decode cX7_fillRow 3 = .ok (.aload_n 0, 1) := by decide +kernel
theorem dX7_fillRow_4 : decode cX7_fillRow 4 = .ok (.getfield 9, 3) := by decide +kernel
theorem dX7_fillRow_7 : decode cX7_fillRow 7 = .ok (.if_icmp .ge 16, 3) := by decide +kernel
theorem dX7_fillRow_10 : decode cX7_fillRow 10 = .ok (.aload_n 0, 1) := by decide +kernel
theorem dX7_fillRow_11 : decode cX7_fillRow 11 = .ok (.iload_n 1, 1) := by decide +kernel
theorem dX7_fillRow_12 : decode cX7_fillRow 12 = .ok (.iload_n 3, 1) := by decide +kernel
theorem dX7_fillRow_13 : decode cX7_fillRow 13 = .ok (.iload_n 2, 1) := by decide +kernel
theorem dX7_fillRow_14 : decode cX7_fillRow 14 = .ok (.invokevirtual 34, 3) := by decide +kernel
theorem dX7_fillRow_17 : decode cX7_fillRow 17 = .ok (.iinc 3 1, 3) := by decide +kernel
theorem dX7_fillRow_20 : decode cX7_fillRow 20 = .ok (.goto (-18), 3) := by decide +kernel
theorem dX7_fillRow_23 : decode cX7_fillRow 23 = .ok (.return_, 1) := by decide +kernel
theorem dX7_add_0 : decode cX7_add 0 = .ok (.aload_n 0, 1) := by decide +kernel
theorem dX7_add_1 : decode cX7_add 1 = .ok (.invokevirtual 38, 3) := by decide +kernel
theorem dX7_add_4 : decode cX7_add 4 = .ok (.ifCond .eq 5, 3) := by decide +kernel
theorem dX7_add_7 : decode cX7_add 7 = .ok (.iconst (-1), 1) := by decide +kernel
theorem dX7_add_8 : decode cX7_add 8 = .ok (.ireturn, 1) := by decide +kernel
theorem dX7_add_9 : decode cX7_add 9 = .ok (.aload_n 0, 1) := by decide +kernel
theorem dX7_add_10 : decode cX7_add 10 = .ok (.dup, 1) := by decide +kernel
theorem dX7_add_11 : decode cX7_add 11 = .ok (.getfield 25, 3) := by decide +kernel
theorem dX7_add_14 : decode cX7_add 14 = .ok (.iconst 1, 1) := by decide +kernel
theorem dX7_add_15 : decode cX7_add 15 = .ok (.iadd, 1) := by decide +kernel
theorem dX7_add_16 : decode cX7_add 16 = .ok (.putfield 25, 3) := by decide +kernel
theorem dX7_add_19 : decode cX7_add 19 = .ok (.aload_n 0, 1) := by decide +kernel
theorem dX7_add_20 : decode cX7_add 20 = .ok (.getfield 25, 3) := by decide +kernel
theorem dX7_add_23 : decode cX7_add 23 = .ok (.iconst 1, 1) := by decide +kernel
theorem dX7_add_24 : decode cX7_add 24 = .ok (.isub, 1) := by decide +kernel
theorem dX7_add_25 : decode cX7_add 25 = .ok (.ireturn, 1) := by decide +kernel
theorem dX7_empty_0 : decode cX7_empty 0 = .ok (.aload_n 0, 1) := by decide +kernel
theorem dX7_empty_1 : decode cX7_empty 1 = .ok (.getfield 25, 3) := by decide +kernel
theorem dX7_empty_4 : decode cX7_empty 4 = .ok (.istore_n 1, 1) := by decide +kernel
theorem dX7_empty_5 : decode cX7_empty 5 = .ok (.aload_n 0, 1) := by decide +kernel
theorem dX7_empty_6 : decode cX7_empty 6 = .ok (.iconst 0, 1) := by decide +kernel
theorem dX7_empty_7 : decode cX7_empty 7 = .ok (.putfield 25, 3) := by decide +kernel
theorem dX7_empty_10 : decode cX7_empty 10 = .ok (.iload_n 1, 1) := by decide +kernel
theorem dX7_empty_11 : decode cX7_empty 11 = .ok (.ireturn, 1) := by decide +kernel
theorem dX7_copyFrom_0 : decode cX7_copyFrom 0 = .ok (.aload_n 1, 1) := by decide +kernel
theorem dX7_copyFrom_1 : decode cX7_copyFrom 1 = .ok (.getfield 21, 3) := by decide +kernel
theorem dX7_copyFrom_4 : decode cX7_copyFrom 4 = .ok (.iconst 0, 1) := by decide +kernel
theorem dX7_copyFrom_5 : decode cX7_copyFrom 5 = .ok (.aload_n 0, 1) := by decide +kernel
theorem dX7_copyFrom_6 : decode cX7_copyFrom 6 = .ok (.getfield 21, 3) := by decide +kernel
theorem dX7_copyFrom_9 : decode cX7_copyFrom 9 = .ok (.iconst 0, 1) := by decide +kernel
theorem dX7_copyFrom_10 : decode cX7_copyFrom 10 = .ok (.aload_n 1, 1) := by decide +kernel
theorem dX7_copyFrom_11 : decode cX7_copyFrom 11 = .ok (.getfield 21, 3) := by decide +kernel
theorem dX7_copyFrom_14 : decode cX7_copyFrom 14 = .ok (.arraylength, 1) := by decide +kernel
theorem dX7_copyFrom_15 : decode cX7_copyFrom 15 = .ok (.aload_n 0, 1) := by decide +kernel
theorem dX7_copyFrom_16 : decode cX7_copyFrom 16 = .ok (.getfield 21, 3) := by decide +kernel
theorem dX7_copyFrom_19 : decode cX7_copyFrom 19 = .ok (.arraylength, 1) := by decide +kernel
theorem dX7_copyFrom_20 : decode cX7_copyFrom 20 = .ok (.invokestatic 42, 3) := by decide +kernel
theorem dX7_copyFrom_23 : decode cX7_copyFrom 23 = .ok (.invokestatic 45, 3) := by decide +kernel
theorem dX7_copyFrom_26 : decode cX7_copyFrom 26 = .ok (.aload_n 0, 1) := by decide +kernel
theorem dX7_copyFrom_27 : decode cX7_copyFrom 27 = .ok (.aload_n 1, 1) := by decide +kernel
theorem dX7_copyFrom_28 : decode cX7_copyFrom 28 = .ok (.getfield 25, 3) := by decide +kernel
theorem dX7_copyFrom_31 : decode cX7_copyFrom 31 = .ok (.putfield 25, 3) := by decide +kernel
theorem dX7_copyFrom_34 : decode cX7_copyFrom 34 = .ok (.return_, 1) := by decide +kernel
theorem dX7_mixedInto_0 : decode cX7_mixedInto 0 = .ok (.aload_n 0, 1) := by decide +kernel
theorem dX7_mixedInto_1 : decode cX7_mixedInto 1 = .ok (.getfield 25, 3) := by decide +kernel
theorem dX7_mixedInto_4 : decode cX7_mixedInto 4 = .ok (.aload_n 0, 1) := by decide +kernel
theorem dX7_mixedInto_5 : decode cX7_mixedInto 5 = .ok (.getfield 9, 3) := by decide +kernel
theorem dX7_mixedInto_8 : decode cX7_mixedInto 8 = .ok (.imul, 1) := by decide +kernel
theorem dX7_mixedInto_9 : decode cX7_mixedInto 9 = .ok (.aload_n 0, 1) := by decide +kernel
theorem dX7_mixedInto_10 : decode cX7_mixedInto 10 = .ok (.getfield 21, 3) := by decide +kernel
theorem dX7_mixedInto_13 : decode cX7_mixedInto 13 = .ok (.arraylength, 1) := by decide +kernel
theorem dX7_mixedInto_14 : decode cX7_mixedInto 14 = .ok (.invokestatic 42, 3) := by decide +kernel
theorem dX7_mixedInto_17 : decode cX7_mixedInto 17 = .ok (.istore_n 3, 1) := by decide +kernel
theorem dX7_mixedInto_18 : decode cX7_mixedInto 18 = .ok (.iconst 0, 1) := by decide +kernel
theorem dX7_mixedInto_19 : decode cX7_mixedInto 19 = .ok (.istore 4, 2) := by decide +kernel
theorem dX7_mixedInto_21 : decode cX7_mixedInto 21 = .ok (.iload 4, 2) := by decide +kernel
theorem dX7_mixedInto_23 : decode cX7_mixedInto 23 = .ok (.iload_n 3, 1) := by decide +kernel
theorem dX7_mixedInto_24 : decode cX7_mixedInto 24 = .ok (.if_icmp .ge 24, 3) := by decide +kernel
theorem dX7_mixedInto_27 : decode cX7_mixedInto 27 = .ok (.ldc2_w 51, 3) := by decide +kernel
theorem dX7_mixedInto_30 : decode cX7_mixedInto 30 = .ok (.lload_n 1, 1) := by decide +kernel
theorem dX7_mixedInto_31 : decode cX7_mixedInto 31 = .ok (.lmul, 1) := by decide +kernel
theorem dX7_mixedInto_32 : decode cX7_mixedInto 32 = .ok (.aload_n 0, 1) := by decide +kernel
theorem dX7_mixedInto_33 : decode cX7_mixedInto 33 = .ok (.getfield 21, 3) := by decide +kernel
theorem dX7_mixedInto_36 : decode cX7_mixedInto 36 = .ok (.iload 4, 2) := by decide +kernel
theorem dX7_mixedInto_38 : decode cX7_mixedInto 38 = .ok (.iaload, 1) := by decide +kernel
theorem dX7_mixedInto_39 : decode cX7_mixedInto 39 = .ok (.i2l, 1) := by decide +kernel
theorem dX7_mixedInto_40 : decode cX7_mixedInto 40 = .ok (.ladd, 1) := by decide +kernel
theorem dX7_mixedInto_41 : decode cX7_mixedInto 41 = .ok (.lstore_n 1, 1) := by decide +kernel
theorem dX7_mixedInto_42 : decode cX7_mixedInto 42 = .ok (.iinc 4 1, 3) := by decide +kernel
theorem dX7_mixedInto_45 : decode cX7_mixedInto 45 = .ok (.goto (-24), 3) := by decide +kernel
theorem dX7_mixedInto_48 : decode cX7_mixedInto 48 = .ok (.lload_n 1, 1) := by decide +kernel
theorem dX7_mixedInto_49 : decode cX7_mixedInto 49 = .ok (.lreturn, 1) := by decide +kernel
theorem dX7_placeOf_0 : decode cX7_placeOf 0 = .ok (.iload_n 1, 1) := by decide +kernel
theorem dX7_placeOf_1 : decode cX7_placeOf 1 = .ok (.ifCond .lt 27, 3) := by decide +kernel
theorem dX7_placeOf_4 : decode cX7_placeOf 4 = .ok (.iload_n 1, 1) := by decide +kernel
theorem dX7_placeOf_5 : decode cX7_placeOf 5 = .ok (.aload_n 0, 1) := by decide +kernel
theorem dX7_placeOf_6 : decode cX7_placeOf 6 = .ok (.getfield 25, 3) := by decide +kernel
theorem dX7_placeOf_9 : decode cX7_placeOf 9 = .ok (.if_icmp .ge 19, 3) := by decide +kernel
theorem dX7_placeOf_12 : decode cX7_placeOf 12 = .ok (.iload_n 2, 1) := by decide +kernel
theorem dX7_placeOf_13 : decode cX7_placeOf 13 = .ok (.ifCond .lt 15, 3) := by decide +kernel
theorem dX7_placeOf_16 : decode cX7_placeOf 16 = .ok (.iload_n 2, 1) := by decide +kernel
theorem dX7_placeOf_17 : decode cX7_placeOf 17 = .ok (.aload_n 0, 1) := by decide +kernel
theorem dX7_placeOf_18 : decode cX7_placeOf 18 = .ok (.getfield 9, 3) := by decide +kernel
theorem dX7_placeOf_21 : decode cX7_placeOf 21 = .ok (.if_icmp .ge 7, 3) := by decide +kernel
theorem dX7_placeOf_24 : decode cX7_placeOf 24 = .ok (.iconst 1, 1) := by decide +kernel
theorem dX7_placeOf_25 : decode cX7_placeOf 25 = .ok (.goto 4, 3) := by decide +kernel
theorem dX7_placeOf_28 : decode cX7_placeOf 28 = .ok (.iconst 0, 1) := by decide +kernel
theorem dX7_placeOf_29 : decode cX7_placeOf 29 = .ok (.istore_n 3, 1) := by decide +kernel
theorem dX7_placeOf_30 : decode cX7_placeOf 30 = .ok (.iload_n 3, 1) := by decide +kernel
theorem dX7_placeOf_31 : decode cX7_placeOf 31 = .ok (.ifCond .eq 14, 3) := by decide +kernel
theorem dX7_placeOf_34 : decode cX7_placeOf 34 = .ok (.iload_n 1, 1) := by decide +kernel
theorem dX7_placeOf_35 : decode cX7_placeOf 35 = .ok (.aload_n 0, 1) := by decide +kernel
theorem dX7_placeOf_36 : decode cX7_placeOf 36 = .ok (.getfield 9, 3) := by decide +kernel
theorem dX7_placeOf_39 : decode cX7_placeOf 39 = .ok (.imul, 1) := by decide +kernel
theorem dX7_placeOf_40 : decode cX7_placeOf 40 = .ok (.iload_n 2, 1) := by decide +kernel
theorem dX7_placeOf_41 : decode cX7_placeOf 41 = .ok (.iadd, 1) := by decide +kernel
theorem dX7_placeOf_42 : decode cX7_placeOf 42 = .ok (.goto 4, 3) := by decide +kernel
theorem dX7_placeOf_45 : decode cX7_placeOf 45 = .ok (.iconst (-1), 1) := by decide +kernel
theorem dX7_placeOf_46 : decode cX7_placeOf 46 = .ok (.ireturn, 1) := by decide +kernel
theorem dX8_init_0 : decode cX8_init 0 = .ok (.aload_n 0, 1) := by decide +kernel
theorem dX8_init_1 : decode cX8_init 1 = .ok (.invokespecial 3, 3) := by decide +kernel
theorem dX8_init_4 : decode cX8_init 4 = .ok (.aload_n 0, 1) := by decide +kernel
theorem dX8_init_5 : decode cX8_init 5 = .ok (.sipush 250, 3) := by decide +kernel
theorem dX8_init_8 : decode cX8_init 8 = .ok (.newarray .int, 2) := by decide +kernel
theorem dX8_init_10 : decode cX8_init 10 = .ok (.putfield 9, 3) := by decide +kernel
theorem dX8_init_13 : decode cX8_init 13 = .ok (.return_, 1) := by decide +kernel
theorem dX8_add_0 : decode cX8_add 0 = .ok (.aload_n 0, 1) := by decide +kernel
theorem dX8_add_1 : decode cX8_add 1 = .ok (.getfield 15, 3) := by decide +kernel
theorem dX8_add_4 : decode cX8_add 4 = .ok (.ifCond .lt 35, 3) := by decide +kernel
theorem dX8_add_7 : decode cX8_add 7 = .ok (.aload_n 0, 1) := by decide +kernel
theorem dX8_add_8 : decode cX8_add 8 = .ok (.getfield 15, 3) := by decide +kernel
theorem dX8_add_11 : decode cX8_add 11 = .ok (.aload_n 0, 1) := by decide +kernel
theorem dX8_add_12 : decode cX8_add 12 = .ok (.getfield 9, 3) := by decide +kernel
theorem dX8_add_15 : decode cX8_add 15 = .ok (.arraylength, 1) := by decide +kernel
theorem dX8_add_16 : decode cX8_add 16 = .ok (.if_icmp .ge 23, 3) := by decide +kernel
theorem dX8_add_19 : decode cX8_add 19 = .ok (.aload_n 0, 1) := by decide +kernel
theorem dX8_add_20 : decode cX8_add 20 = .ok (.getfield 9, 3) := by decide +kernel
theorem dX8_add_23 : decode cX8_add 23 = .ok (.aload_n 0, 1) := by decide +kernel
theorem dX8_add_24 : decode cX8_add 24 = .ok (.getfield 15, 3) := by decide +kernel
theorem dX8_add_27 : decode cX8_add 27 = .ok (.iload_n 1, 1) := by decide +kernel
theorem dX8_add_28 : decode cX8_add 28 = .ok (.iastore, 1) := by decide +kernel
theorem dX8_add_29 : decode cX8_add 29 = .ok (.aload_n 0, 1) := by decide +kernel
theorem dX8_add_30 : decode cX8_add 30 = .ok (.dup, 1) := by decide +kernel
theorem dX8_add_31 : decode cX8_add 31 = .ok (.getfield 15, 3) := by decide +kernel
theorem dX8_add_34 : decode cX8_add 34 = .ok (.iconst 1, 1) := by decide +kernel
theorem dX8_add_35 : decode cX8_add 35 = .ok (.iadd, 1) := by decide +kernel
theorem dX8_add_36 : decode cX8_add 36 = .ok (.putfield 15, 3) := by decide +kernel
theorem dX8_add_39 : decode cX8_add 39 = .ok (.return_, 1) := by decide +kernel
theorem dX8_at_0 : decode cX8_at 0 = .ok (.iload_n 1, 1) := by decide +kernel
theorem dX8_at_1 : decode cX8_at 1 = .ok (.ifCond .lt 29, 3) := by decide +kernel
theorem dX8_at_4 : decode cX8_at 4 = .ok (.iload_n 1, 1) := by decide +kernel
theorem dX8_at_5 : decode cX8_at 5 = .ok (.aload_n 0, 1) := by decide +kernel
theorem dX8_at_6 : decode cX8_at 6 = .ok (.getfield 15, 3) := by decide +kernel
theorem dX8_at_9 : decode cX8_at 9 = .ok (.if_icmp .ge 21, 3) := by decide +kernel
theorem dX8_at_12 : decode cX8_at 12 = .ok (.iload_n 1, 1) := by decide +kernel
theorem dX8_at_13 : decode cX8_at 13 = .ok (.aload_n 0, 1) := by decide +kernel
theorem dX8_at_14 : decode cX8_at 14 = .ok (.getfield 9, 3) := by decide +kernel
theorem dX8_at_17 : decode cX8_at 17 = .ok (.arraylength, 1) := by decide +kernel
theorem dX8_at_18 : decode cX8_at 18 = .ok (.if_icmp .ge 12, 3) := by decide +kernel
theorem dX8_at_21 : decode cX8_at 21 = .ok (.aload_n 0, 1) := by decide +kernel
theorem dX8_at_22 : decode cX8_at 22 = .ok (.getfield 9, 3) := by decide +kernel
theorem dX8_at_25 : decode cX8_at 25 = .ok (.iload_n 1, 1) := by decide +kernel
theorem dX8_at_26 : decode cX8_at 26 = .ok (.iaload, 1) := by decide +kernel
theorem dX8_at_27 : decode cX8_at 27 = .ok (.goto 4, 3) := by decide +kernel
theorem dX8_at_30 : decode cX8_at 30 = .ok (.iconst (-1), 1) := by decide +kernel
theorem dX8_at_31 : decode cX8_at 31 = .ok (.ireturn, 1) := by decide +kernel
theorem dX9_init_0 : decode cX9_init 0 = .ok (.aload_n 0, 1) := by decide +kernel
theorem dX9_init_1 : decode cX9_init 1 = .ok (.invokespecial 1, 3) := by decide +kernel
theorem dX9_init_4 : decode cX9_init 4 = .ok (.aload_n 0, 1) := by decide +kernel
theorem dX9_init_5 : decode cX9_init 5 = .ok (.new 7, 3) := by decide +kernel
theorem dX9_init_8 : decode cX9_init 8 = .ok (.dup, 1) := by decide +kernel
theorem dX9_init_9 : decode cX9_init 9 = .ok (.invokespecial 9, 3) := by decide +kernel
theorem dX9_init_12 : decode cX9_init 12 = .ok (.putfield 10, 3) := by decide +kernel
theorem dX9_init_15 : decode cX9_init 15 = .ok (.aload_n 0, 1) := by decide +kernel
theorem dX9_init_16 : decode cX9_init 16 = .ok (.new 7, 3) := by decide +kernel
theorem dX9_init_19 : decode cX9_init 19 = .ok (.dup, 1) := by decide +kernel
theorem dX9_init_20 : decode cX9_init 20 = .ok (.invokespecial 9, 3) := by decide +kernel
theorem dX9_init_23 : decode cX9_init 23 = .ok (.putfield 16, 3) := by decide +kernel
theorem dX9_init_26 : decode cX9_init 26 = .ok (.aload_n 0, 1) := by decide +kernel
theorem dX9_init_27 : decode cX9_init 27 = .ok (.new 7, 3) := by decide +kernel
theorem dX9_init_30 : decode cX9_init 30 = .ok (.dup, 1) := by decide +kernel
theorem dX9_init_31 : decode cX9_init 31 = .ok (.invokespecial 9, 3) := by decide +kernel
theorem dX9_init_34 : decode cX9_init 34 = .ok (.putfield 19, 3) := by decide +kernel
theorem dX9_init_37 : decode cX9_init 37 = .ok (.aload_n 0, 1) := by decide +kernel
theorem dX9_init_38 : decode cX9_init 38 = .ok (.aload_n 0, 1) := by decide +kernel
theorem dX9_init_39 : decode cX9_init 39 = .ok (.getfield 10, 3) := by decide +kernel
theorem dX9_init_42 : decode cX9_init 42 = .ok (.getfield 22, 3) := by decide +kernel
theorem dX9_init_45 : decode cX9_init 45 = .ok (.putfield 26, 3) := by decide +kernel
theorem dX9_init_48 : decode cX9_init 48 = .ok (.aload_n 0, 1) := by decide +kernel
theorem dX9_init_49 : decode cX9_init 49 = .ok (.new 29, 3) := by decide +kernel
theorem dX9_init_52 : decode cX9_init 52 = .ok (.dup, 1) := by decide +kernel
theorem dX9_init_53 : decode cX9_init 53 = .ok (.invokespecial 31, 3) := by decide +kernel
theorem dX9_init_56 : decode cX9_init 56 = .ok (.putfield 32, 3) := by decide +kernel
theorem dX9_init_59 : decode cX9_init 59 = .ok (.aload_n 0, 1) := by decide +kernel
theorem dX9_init_60 : decode cX9_init 60 = .ok (.aload_n 0, 1) := by decide +kernel
theorem dX9_init_61 : decode cX9_init 61 = .ok (.getfield 32, 3) := by decide +kernel
theorem dX9_init_64 : decode cX9_init 64 = .ok (.getfield 36, 3) := by decide +kernel
theorem dX9_init_67 : decode cX9_init 67 = .ok (.putfield 40, 3) := by decide +kernel
theorem dX9_init_70 : decode cX9_init 70 = .ok (.aload_n 0, 1) := by decide +kernel
theorem dX9_init_71 : decode cX9_init 71 = .ok (.new 41, 3) := by decide +kernel
theorem dX9_init_74 : decode cX9_init 74 = .ok (.dup, 1) := by decide +kernel
theorem dX9_init_75 : decode cX9_init 75 = .ok (.invokespecial 43, 3) := by decide +kernel
theorem dX9_init_78 : decode cX9_init 78 = .ok (.putfield 44, 3) := by decide +kernel
theorem dX9_init_81 : decode cX9_init 81 = .ok (.aload_n 0, 1) := by decide +kernel
theorem dX9_init_82 : decode cX9_init 82 = .ok (.new 48, 3) := by decide +kernel
theorem dX9_init_85 : decode cX9_init 85 = .ok (.dup, 1) := by decide +kernel
theorem dX9_init_86 : decode cX9_init 86 = .ok (.invokespecial 50, 3) := by decide +kernel
theorem dX9_init_89 : decode cX9_init 89 = .ok (.putfield 51, 3) := by decide +kernel
theorem dX9_init_92 : decode cX9_init 92 = .ok (.aload_n 0, 1) := by decide +kernel
theorem dX9_init_93 : decode cX9_init 93 = .ok (.new 55, 3) := by decide +kernel
theorem dX9_init_96 : decode cX9_init 96 = .ok (.dup, 1) := by decide +kernel
theorem dX9_init_97 : decode cX9_init 97 = .ok (.invokespecial 57, 3) := by decide +kernel
theorem dX9_init_100 : decode cX9_init 100 = .ok (.putfield 58, 3) := by decide +kernel
theorem dX9_init_103 : decode cX9_init 103 = .ok (.aload_n 0, 1) := by decide +kernel
theorem dX9_init_104 : decode cX9_init 104 = .ok (.new 62, 3) := by decide +kernel
theorem dX9_init_107 : decode cX9_init 107 = .ok (.dup, 1) := by decide +kernel
theorem dX9_init_108 : decode cX9_init 108 = .ok (.invokespecial 64, 3) := by decide +kernel
theorem dX9_init_111 : decode cX9_init 111 = .ok (.putfield 65, 3) := by decide +kernel
theorem dX9_init_114 : decode cX9_init 114 = .ok (.aload_n 0, 1) := by decide +kernel
theorem dX9_init_115 : decode cX9_init 115 = .ok (.getfield 26, 3) := by decide +kernel
theorem dX9_init_118 : decode cX9_init 118 = .ok (.iconst 4, 1) := by decide +kernel
theorem dX9_init_119 : decode cX9_init 119 = .ok (.invokevirtual 69, 3) := by decide +kernel
theorem dX9_init_122 : decode cX9_init 122 = .ok (.iconst 0, 1) := by decide +kernel
theorem dX9_init_123 : decode cX9_init 123 = .ok (.istore_n 1, 1) := by decide +kernel
theorem dX9_init_124 : decode cX9_init 124 = .ok (.iload_n 1, 1) := by decide +kernel
theorem dX9_init_125 : decode cX9_init 125 = .ok (.iconst 4, 1) := by decide +kernel
theorem dX9_init_126 : decode cX9_init 126 = .ok (.if_icmp .ge 19, 3) := by decide +kernel
theorem dX9_init_129 : decode cX9_init 129 = .ok (.aload_n 0, 1) := by decide +kernel
theorem dX9_init_130 : decode cX9_init 130 = .ok (.getfield 26, 3) := by decide +kernel
theorem dX9_init_133 : decode cX9_init 133 = .ok (.iload_n 1, 1) := by decide +kernel
theorem dX9_init_134 : decode cX9_init 134 = .ok (.bipush 10, 2) := by decide +kernel
theorem dX9_init_136 : decode cX9_init 136 = .ok (.invokevirtual 75, 3) := by decide +kernel
theorem dX9_init_139 : decode cX9_init 139 = .ok (.iinc 1 1, 3) := by decide +kernel
theorem dX9_init_142 : decode cX9_init 142 = .ok (.goto (-18), 3) := by decide +kernel
theorem dX9_init_145 : decode cX9_init 145 = .ok (.return_, 1) := by decide +kernel
theorem dX9_people_0 : decode cX9_people 0 = .ok (.iload_n 1, 1) := by decide +kernel
theorem dX9_people_1 : decode cX9_people 1 = .ok (.iconst 2, 1) := by decide +kernel
theorem dX9_people_2 : decode cX9_people 2 = .ok (.bipush 6, 2) := by decide +kernel
theorem dX9_people_4 : decode cX9_people 4 = .ok (.invokestatic 79, 3) := by decide +kernel
theorem dX9_people_7 : decode cX9_people 7 = .ok (.ifCond .ne 10, 3) := by decide +kernel
theorem dX9_people_10 : decode cX9_people 10 = .ok (.aload_n 0, 1) := by decide +kernel
theorem dX9_people_11 : decode cX9_people 11 = .ok (.bipush (-2), 2) := by decide +kernel
theorem dX9_people_13 : decode cX9_people 13 = .ok (.invokevirtual 83, 3) := by decide +kernel
theorem dX9_people_16 : decode cX9_people 16 = .ok (.ireturn, 1) := by decide +kernel
theorem dX9_people_17 : decode cX9_people 17 = .ok (.aload_n 0, 1) := by decide +kernel
theorem dX9_people_18 : decode cX9_people 18 = .ok (.getfield 26, 3) := by decide +kernel
theorem dX9_people_21 : decode cX9_people 21 = .ok (.getfield 87, 3) := by decide +kernel
theorem dX9_people_24 : decode cX9_people 24 = .ok (.getfield 91, 3) := by decide +kernel
theorem dX9_people_27 : decode cX9_people 27 = .ok (.istore_n 2, 1) := by decide +kernel
theorem dX9_people_28 : decode cX9_people 28 = .ok (.aload_n 0, 1) := by decide +kernel
theorem dX9_people_29 : decode cX9_people 29 = .ok (.getfield 26, 3) := by decide +kernel
theorem dX9_people_32 : decode cX9_people 32 = .ok (.iload_n 1, 1) := by decide +kernel
theorem dX9_people_33 : decode cX9_people 33 = .ok (.invokevirtual 69, 3) := by decide +kernel
theorem dX9_people_36 : decode cX9_people 36 = .ok (.aload_n 0, 1) := by decide +kernel
theorem dX9_people_37 : decode cX9_people 37 = .ok (.getfield 10, 3) := by decide +kernel
theorem dX9_people_40 : decode cX9_people 40 = .ok (.iconst 0, 1) := by decide +kernel
theorem dX9_people_41 : decode cX9_people 41 = .ok (.putfield 97, 3) := by decide +kernel
theorem dX9_people_44 : decode cX9_people 44 = .ok (.aload_n 0, 1) := by decide +kernel
theorem dX9_people_45 : decode cX9_people 45 = .ok (.getfield 58, 3) := by decide +kernel
theorem dX9_people_48 : decode cX9_people 48 = .ok (.iconst 1, 1) := by decide +kernel
theorem dX9_people_49 : decode cX9_people 49 = .ok (.putfield 100, 3) := by decide +kernel
theorem dX9_people_52 : decode cX9_people 52 = .ok (.iload_n 2, 1) := by decide +kernel
theorem dX9_people_53 : decode cX9_people 53 = .ok (.ireturn, 1) := by decide +kernel
theorem dX9_strong_0 : decode cX9_strong 0 = .ok (.aload_n 0, 1) := by decide +kernel
theorem dX9_strong_1 : decode cX9_strong 1 = .ok (.getfield 26, 3) := by decide +kernel
theorem dX9_strong_4 : decode cX9_strong 4 = .ok (.getfield 87, 3) := by decide +kernel
theorem dX9_strong_7 : decode cX9_strong 7 = .ok (.iload_n 1, 1) := by decide +kernel
theorem dX9_strong_8 : decode cX9_strong 8 = .ok (.invokevirtual 104, 3) := by decide +kernel
theorem dX9_strong_11 : decode cX9_strong 11 = .ok (.ifCond .eq 13, 3) := by decide +kernel
theorem dX9_strong_14 : decode cX9_strong 14 = .ok (.iload_n 2, 1) := by decide +kernel
theorem dX9_strong_15 : decode cX9_strong 15 = .ok (.iconst 0, 1) := by decide +kernel
theorem dX9_strong_16 : decode cX9_strong 16 = .ok (.bipush 99, 2) := by decide +kernel
theorem dX9_strong_18 : decode cX9_strong 18 = .ok (.invokestatic 79, 3) := by decide +kernel
theorem dX9_strong_21 : decode cX9_strong 21 = .ok (.ifCond .ne 10, 3) := by decide +kernel
theorem dX9_strong_24 : decode cX9_strong 24 = .ok (.aload_n 0, 1) := by decide +kernel
theorem dX9_strong_25 : decode cX9_strong 25 = .ok (.bipush (-2), 2) := by decide +kernel
theorem dX9_strong_27 : decode cX9_strong 27 = .ok (.invokevirtual 83, 3) := by decide +kernel
theorem dX9_strong_30 : decode cX9_strong 30 = .ok (.ireturn, 1) := by decide +kernel
theorem dX9_strong_31 : decode cX9_strong 31 = .ok (.aload_n 0, 1) := by decide +kernel
theorem dX9_strong_32 : decode cX9_strong 32 = .ok (.getfield 26, 3) := by decide +kernel
theorem dX9_strong_35 : decode cX9_strong 35 = .ok (.getfield 87, 3) := by decide +kernel
theorem dX9_strong_38 : decode cX9_strong 38 = .ok (.iload_n 1, 1) := by decide +kernel
theorem dX9_strong_39 : decode cX9_strong 39 = .ok (.iconst 0, 1) := by decide +kernel
theorem dX9_strong_40 : decode cX9_strong 40 = .ok (.invokevirtual 108, 3) := by decide +kernel
theorem dX9_strong_43 : decode cX9_strong 43 = .ok (.istore_n 3, 1) := by decide +kernel
theorem dX9_strong_44 : decode cX9_strong 44 = .ok (.aload_n 0, 1) := by decide +kernel
theorem dX9_strong_45 : decode cX9_strong 45 = .ok (.getfield 26, 3) := by decide +kernel
theorem dX9_strong_48 : decode cX9_strong 48 = .ok (.getfield 87, 3) := by decide +kernel
theorem dX9_strong_51 : decode cX9_strong 51 = .ok (.iload_n 1, 1) := by decide +kernel
theorem dX9_strong_52 : decode cX9_strong 52 = .ok (.iconst 0, 1) := by decide +kernel
theorem dX9_strong_53 : decode cX9_strong 53 = .ok (.iload_n 2, 1) := by decide +kernel
theorem dX9_strong_54 : decode cX9_strong 54 = .ok (.invokevirtual 112, 3) := by decide +kernel
theorem dX9_strong_57 : decode cX9_strong 57 = .ok (.aload_n 0, 1) := by decide +kernel
theorem dX9_strong_58 : decode cX9_strong 58 = .ok (.getfield 58, 3) := by decide +kernel
theorem dX9_strong_61 : decode cX9_strong 61 = .ok (.iconst 1, 1) := by decide +kernel
theorem dX9_strong_62 : decode cX9_strong 62 = .ok (.putfield 100, 3) := by decide +kernel
theorem dX9_strong_65 : decode cX9_strong 65 = .ok (.iload_n 3, 1) := by decide +kernel
theorem dX9_strong_66 : decode cX9_strong 66 = .ok (.ireturn, 1) := by decide +kernel
theorem dX9_favour_0 : decode cX9_favour 0 = .ok (.aload_n 0, 1) := by decide +kernel
theorem dX9_favour_1 : decode cX9_favour 1 = .ok (.getfield 26, 3) := by decide +kernel
theorem dX9_favour_4 : decode cX9_favour 4 = .ok (.getfield 87, 3) := by decide +kernel
theorem dX9_favour_7 : decode cX9_favour 7 = .ok (.iload_n 2, 1) := by decide +kernel
theorem dX9_favour_8 : decode cX9_favour 8 = .ok (.invokevirtual 104, 3) := by decide +kernel
theorem dX9_favour_11 : decode cX9_favour 11 = .ok (.ifCond .eq 26, 3) := by decide +kernel
theorem dX9_favour_14 : decode cX9_favour 14 = .ok (.aload_n 0, 1) := by decide +kernel
theorem dX9_favour_15 : decode cX9_favour 15 = .ok (.getfield 26, 3) := by decide +kernel
theorem dX9_favour_18 : decode cX9_favour 18 = .ok (.getfield 87, 3) := by decide +kernel
theorem dX9_favour_21 : decode cX9_favour 21 = .ok (.iload_n 3, 1) := by decide +kernel
theorem dX9_favour_22 : decode cX9_favour 22 = .ok (.invokevirtual 104, 3) := by decide +kernel
theorem dX9_favour_25 : decode cX9_favour 25 = .ok (.ifCond .eq 12, 3) := by decide +kernel
theorem dX9_favour_28 : decode cX9_favour 28 = .ok (.iload_n 2, 1) := by decide +kernel
theorem dX9_favour_29 : decode cX9_favour 29 = .ok (.iload_n 3, 1) := by decide +kernel
theorem dX9_favour_30 : decode cX9_favour 30 = .ok (.if_icmp .eq 7, 3) := by decide +kernel
theorem dX9_favour_33 : decode cX9_favour 33 = .ok (.iconst 1, 1) := by decide +kernel
theorem dX9_favour_34 : decode cX9_favour 34 = .ok (.goto 4, 3) := by decide +kernel
theorem dX9_favour_37 : decode cX9_favour 37 = .ok (.iconst 0, 1) := by decide +kernel
theorem dX9_favour_38 : decode cX9_favour 38 = .ok (.istore 7, 2) := by decide +kernel
theorem dX9_favour_40 : decode cX9_favour 40 = .ok (.iload 7, 2) := by decide +kernel
theorem dX9_favour_42 : decode cX9_favour 42 = .ok (.ifCond .eq 39, 3) := by decide +kernel
theorem dX9_favour_45 : decode cX9_favour 45 = .ok (.iload_n 1, 1) := by decide +kernel
theorem dX9_favour_46 : decode cX9_favour 46 = .ok (.iconst 0, 1) := by decide +kernel
theorem dX9_favour_47 : decode cX9_favour 47 = .ok (.iconst 4, 1) := by decide +kernel
theorem dX9_favour_48 : decode cX9_favour 48 = .ok (.invokestatic 79, 3) := by decide +kernel
theorem dX9_favour_51 : decode cX9_favour 51 = .ok (.ifCond .eq 30, 3) := by decide +kernel
theorem dX9_favour_54 : decode cX9_favour 54 = .ok (.iload 4, 2) := by decide +kernel
theorem dX9_favour_56 : decode cX9_favour 56 = .ok (.invokestatic 116, 3) := by decide +kernel
theorem dX9_favour_59 : decode cX9_favour 59 = .ok (.ifCond .eq 22, 3) := by decide +kernel
theorem dX9_favour_62 : decode cX9_favour 62 = .ok (.iload 5, 2) := by decide +kernel
theorem dX9_favour_64 : decode cX9_favour 64 = .ok (.iconst 1, 1) := by decide +kernel
theorem dX9_favour_65 : decode cX9_favour 65 = .ok (.bipush 40, 2) := by decide +kernel
theorem dX9_favour_67 : decode cX9_favour 67 = .ok (.invokestatic 79, 3) := by decide +kernel
theorem dX9_favour_70 : decode cX9_favour 70 = .ok (.ifCond .eq 11, 3) := by decide +kernel
theorem dX9_favour_73 : decode cX9_favour 73 = .ok (.iload 6, 2) := by decide +kernel
theorem dX9_favour_75 : decode cX9_favour 75 = .ok (.invokestatic 119, 3) := by decide +kernel
theorem dX9_favour_78 : decode cX9_favour 78 = .ok (.ifCond .ne 10, 3) := by decide +kernel
theorem dX9_favour_81 : decode cX9_favour 81 = .ok (.aload_n 0, 1) := by decide +kernel
theorem dX9_favour_82 : decode cX9_favour 82 = .ok (.bipush (-2), 2) := by decide +kernel
theorem dX9_favour_84 : decode cX9_favour 84 = .ok (.invokevirtual 83, 3) := by decide +kernel
theorem dX9_favour_87 : decode cX9_favour 87 = .ok (.ireturn, 1) := by decide +kernel
theorem dX9_favour_88 : decode cX9_favour 88 = .ok (.aload_n 0, 1) := by decide +kernel
theorem dX9_favour_89 : decode cX9_favour 89 = .ok (.getfield 26, 3) := by decide +kernel
theorem dX9_favour_92 : decode cX9_favour 92 = .ok (.getfield 122, 3) := by decide +kernel
theorem dX9_favour_95 : decode cX9_favour 95 = .ok (.invokevirtual 125, 3) := by decide +kernel
theorem dX9_favour_98 : decode cX9_favour 98 = .ok (.ifCond .eq 8, 3) := by decide +kernel
theorem dX9_favour_101 : decode cX9_favour 101 = .ok (.aload_n 0, 1) := by decide +kernel
theorem dX9_favour_102 : decode cX9_favour 102 = .ok (.invokevirtual 129, 3) := by decide +kernel
theorem dX9_favour_105 : decode cX9_favour 105 = .ok (.ireturn, 1) := by decide +kernel
theorem dX9_favour_106 : decode cX9_favour 106 = .ok (.aload_n 0, 1) := by decide +kernel
theorem dX9_favour_107 : decode cX9_favour 107 = .ok (.getfield 58, 3) := by decide +kernel
theorem dX9_favour_110 : decode cX9_favour 110 = .ok (.iconst 1, 1) := by decide +kernel
theorem dX9_favour_111 : decode cX9_favour 111 = .ok (.putfield 100, 3) := by decide +kernel
theorem dX9_favour_114 : decode cX9_favour 114 = .ok (.aload_n 0, 1) := by decide +kernel
theorem dX9_favour_115 : decode cX9_favour 115 = .ok (.getfield 26, 3) := by decide +kernel
theorem dX9_favour_118 : decode cX9_favour 118 = .ok (.iload_n 1, 1) := by decide +kernel
theorem dX9_favour_119 : decode cX9_favour 119 = .ok (.iload_n 2, 1) := by decide +kernel
theorem dX9_favour_120 : decode cX9_favour 120 = .ok (.iload_n 3, 1) := by decide +kernel
theorem dX9_favour_121 : decode cX9_favour 121 = .ok (.iload 4, 2) := by decide +kernel
theorem dX9_favour_123 : decode cX9_favour 123 = .ok (.iload 5, 2) := by decide +kernel
theorem dX9_favour_125 : decode cX9_favour 125 = .ok (.iload 6, 2) := by decide +kernel
theorem dX9_favour_127 : decode cX9_favour 127 = .ok (.invokevirtual 133, 3) := by decide +kernel
theorem dX9_favour_130 : decode cX9_favour 130 = .ok (.ireturn, 1) := by decide +kernel
theorem dX9_need_0 : decode cX9_need 0 = .ok (.aload_n 0, 1) := by decide +kernel
theorem dX9_need_1 : decode cX9_need 1 = .ok (.getfield 26, 3) := by decide +kernel
theorem dX9_need_4 : decode cX9_need 4 = .ok (.getfield 87, 3) := by decide +kernel
theorem dX9_need_7 : decode cX9_need 7 = .ok (.iload_n 1, 1) := by decide +kernel
theorem dX9_need_8 : decode cX9_need 8 = .ok (.invokevirtual 104, 3) := by decide +kernel
theorem dX9_need_11 : decode cX9_need 11 = .ok (.ifCond .eq 29, 3) := by decide +kernel
theorem dX9_need_14 : decode cX9_need 14 = .ok (.iload_n 2, 1) := by decide +kernel
theorem dX9_need_15 : decode cX9_need 15 = .ok (.invokestatic 116, 3) := by decide +kernel
theorem dX9_need_18 : decode cX9_need 18 = .ok (.ifCond .eq 22, 3) := by decide +kernel
theorem dX9_need_21 : decode cX9_need 21 = .ok (.iload_n 3, 1) := by decide +kernel
theorem dX9_need_22 : decode cX9_need 22 = .ok (.iconst 1, 1) := by decide +kernel
theorem dX9_need_23 : decode cX9_need 23 = .ok (.bipush 40, 2) := by decide +kernel
theorem dX9_need_25 : decode cX9_need 25 = .ok (.invokestatic 79, 3) := by decide +kernel
theorem dX9_need_28 : decode cX9_need 28 = .ok (.ifCond .eq 12, 3) := by decide +kernel
theorem dX9_need_31 : decode cX9_need 31 = .ok (.aload_n 0, 1) := by decide +kernel
theorem dX9_need_32 : decode cX9_need 32 = .ok (.iload 4, 2) := by decide +kernel
theorem dX9_need_34 : decode cX9_need 34 = .ok (.invokevirtual 137, 3) := by decide +kernel
theorem dX9_need_37 : decode cX9_need 37 = .ok (.ifCond .ne 10, 3) := by decide +kernel
theorem dX9_need_40 : decode cX9_need 40 = .ok (.aload_n 0, 1) := by decide +kernel
theorem dX9_need_41 : decode cX9_need 41 = .ok (.bipush (-2), 2) := by decide +kernel
theorem dX9_need_43 : decode cX9_need 43 = .ok (.invokevirtual 83, 3) := by decide +kernel
theorem dX9_need_46 : decode cX9_need 46 = .ok (.ireturn, 1) := by decide +kernel
theorem dX9_need_47 : decode cX9_need 47 = .ok (.aload_n 0, 1) := by decide +kernel
theorem dX9_need_48 : decode cX9_need 48 = .ok (.getfield 26, 3) := by decide +kernel
theorem dX9_need_51 : decode cX9_need 51 = .ok (.getfield 140, 3) := by decide +kernel
theorem dX9_need_54 : decode cX9_need 54 = .ok (.invokevirtual 125, 3) := by decide +kernel
theorem dX9_need_57 : decode cX9_need 57 = .ok (.ifCond .eq 8, 3) := by decide +kernel
theorem dX9_need_60 : decode cX9_need 60 = .ok (.aload_n 0, 1) := by decide +kernel
theorem dX9_need_61 : decode cX9_need 61 = .ok (.invokevirtual 129, 3) := by decide +kernel
theorem dX9_need_64 : decode cX9_need 64 = .ok (.ireturn, 1) := by decide +kernel
theorem dX9_need_65 : decode cX9_need 65 = .ok (.aload_n 0, 1) := by decide +kernel
theorem dX9_need_66 : decode cX9_need 66 = .ok (.getfield 58, 3) := by decide +kernel
theorem dX9_need_69 : decode cX9_need 69 = .ok (.iconst 1, 1) := by decide +kernel
theorem dX9_need_70 : decode cX9_need 70 = .ok (.putfield 100, 3) := by decide +kernel
theorem dX9_need_73 : decode cX9_need 73 = .ok (.aload_n 0, 1) := by decide +kernel
theorem dX9_need_74 : decode cX9_need 74 = .ok (.getfield 26, 3) := by decide +kernel
theorem dX9_need_77 : decode cX9_need 77 = .ok (.iload_n 1, 1) := by decide +kernel
theorem dX9_need_78 : decode cX9_need 78 = .ok (.iload_n 2, 1) := by decide +kernel
theorem dX9_need_79 : decode cX9_need 79 = .ok (.iload_n 3, 1) := by decide +kernel
theorem dX9_need_80 : decode cX9_need 80 = .ok (.iload 4, 2) := by decide +kernel
theorem dX9_need_82 : decode cX9_need 82 = .ok (.invokevirtual 143, 3) := by decide +kernel
theorem dX9_need_85 : decode cX9_need 85 = .ok (.ireturn, 1) := by decide +kernel
theorem dX9_contented_0 : decode cX9_contented 0 = .ok (.aload_n 0, 1) := by decide +kernel
theorem dX9_contented_1 : decode cX9_contented 1 = .ok (.getfield 58, 3) := by decide +kernel
theorem dX9_contented_4 : decode cX9_contented 4 = .ok (.iconst 1, 1) := by decide +kernel
theorem dX9_contented_5 : decode cX9_contented 5 = .ok (.putfield 100, 3) := by decide +kernel
theorem dX9_contented_8 : decode cX9_contented 8 = .ok (.aload_n 0, 1) := by decide +kernel
theorem dX9_contented_9 : decode cX9_contented 9 = .ok (.getfield 26, 3) := by decide +kernel
theorem dX9_contented_12 : decode cX9_contented 12 = .ok (.getfield 140, 3) := by decide +kernel
theorem dX9_contented_15 : decode cX9_contented 15 = .ok (.invokevirtual 147, 3) := by decide +kernel
theorem dX9_contented_18 : decode cX9_contented 18 = .ok (.ireturn, 1) := by decide +kernel
theorem dX9_type_0 : decode cX9_type 0 = .ok (.iload_n 3, 1) := by decide +kernel
theorem dX9_type_1 : decode cX9_type 1 = .ok (.iconst 1, 1) := by decide +kernel
theorem dX9_type_2 : decode cX9_type 2 = .ok (.bipush 8, 2) := by decide +kernel
theorem dX9_type_4 : decode cX9_type 4 = .ok (.invokestatic 79, 3) := by decide +kernel
theorem dX9_type_7 : decode cX9_type 7 = .ok (.ifCond .ne 10, 3) := by decide +kernel
theorem dX9_type_10 : decode cX9_type 10 = .ok (.aload_n 0, 1) := by decide +kernel
theorem dX9_type_11 : decode cX9_type 11 = .ok (.bipush (-2), 2) := by decide +kernel
theorem dX9_type_13 : decode cX9_type 13 = .ok (.invokevirtual 83, 3) := by decide +kernel
theorem dX9_type_16 : decode cX9_type 16 = .ok (.ireturn, 1) := by decide +kernel
theorem dX9_type_17 : decode cX9_type 17 = .ok (.aload_n 0, 1) := by decide +kernel
theorem dX9_type_18 : decode cX9_type 18 = .ok (.getfield 40, 3) := by decide +kernel
theorem dX9_type_21 : decode cX9_type 21 = .ok (.getfield 150, 3) := by decide +kernel
theorem dX9_type_24 : decode cX9_type 24 = .ok (.iload_n 3, 1) := by decide +kernel
theorem dX9_type_25 : decode cX9_type 25 = .ok (.iadd, 1) := by decide +kernel
theorem dX9_type_26 : decode cX9_type 26 = .ok (.sipush 250, 3) := by decide +kernel
theorem dX9_type_29 : decode cX9_type 29 = .ok (.if_icmp .le 8, 3) := by decide +kernel
theorem dX9_type_32 : decode cX9_type 32 = .ok (.aload_n 0, 1) := by decide +kernel
theorem dX9_type_33 : decode cX9_type 33 = .ok (.invokevirtual 129, 3) := by decide +kernel
theorem dX9_type_36 : decode cX9_type 36 = .ok (.ireturn, 1) := by decide +kernel
theorem dX9_type_37 : decode cX9_type 37 = .ok (.iload_n 3, 1) := by decide +kernel
theorem dX9_type_38 : decode cX9_type 38 = .ok (.iconst 1, 1) := by decide +kernel
theorem dX9_type_39 : decode cX9_type 39 = .ok (.isub, 1) := by decide +kernel
theorem dX9_type_40 : decode cX9_type 40 = .ok (.istore 4, 2) := by decide +kernel
theorem dX9_type_42 : decode cX9_type 42 = .ok (.iload 4, 2) := by decide +kernel
theorem dX9_type_44 : decode cX9_type 44 = .ok (.ifCond .lt 28, 3) := by decide +kernel
theorem dX9_type_47 : decode cX9_type 47 = .ok (.aload_n 0, 1) := by decide +kernel
theorem dX9_type_48 : decode cX9_type 48 = .ok (.getfield 40, 3) := by decide +kernel
theorem dX9_type_51 : decode cX9_type 51 = .ok (.lload_n 1, 1) := by decide +kernel
theorem dX9_type_52 : decode cX9_type 52 = .ok (.bipush 8, 2) := by decide +kernel
theorem dX9_type_54 : decode cX9_type 54 = .ok (.iload 4, 2) := by decide +kernel
theorem dX9_type_56 : decode cX9_type 56 = .ok (.imul, 1) := by decide +kernel
theorem dX9_type_57 : decode cX9_type 57 = .ok (.lushr, 1) := by decide +kernel
theorem dX9_type_58 : decode cX9_type 58 = .ok (.l2i, 1) := by decide +kernel
theorem dX9_type_59 : decode cX9_type 59 = .ok (.sipush 255, 3) := by decide +kernel
theorem dX9_type_62 : decode cX9_type 62 = .ok (.iand, 1) := by decide +kernel
theorem dX9_type_63 : decode cX9_type 63 = .ok (.invokevirtual 155, 3) := by decide +kernel
theorem dX9_type_66 : decode cX9_type 66 = .ok (.iinc 4 (-1), 3) := by decide +kernel
theorem dX9_type_69 : decode cX9_type 69 = .ok (.goto (-27), 3) := by decide +kernel
theorem dX9_type_72 : decode cX9_type 72 = .ok (.aload_n 0, 1) := by decide +kernel
theorem dX9_type_73 : decode cX9_type 73 = .ok (.getfield 40, 3) := by decide +kernel
theorem dX9_type_76 : decode cX9_type 76 = .ok (.getfield 150, 3) := by decide +kernel
theorem dX9_type_79 : decode cX9_type 79 = .ok (.ireturn, 1) := by decide +kernel
theorem dX9_clear_0 : decode cX9_clear 0 = .ok (.aload_n 0, 1) := by decide +kernel
theorem dX9_clear_1 : decode cX9_clear 1 = .ok (.getfield 40, 3) := by decide +kernel
theorem dX9_clear_4 : decode cX9_clear 4 = .ok (.getfield 150, 3) := by decide +kernel
theorem dX9_clear_7 : decode cX9_clear 7 = .ok (.istore_n 1, 1) := by decide +kernel
theorem dX9_clear_8 : decode cX9_clear 8 = .ok (.aload_n 0, 1) := by decide +kernel
theorem dX9_clear_9 : decode cX9_clear 9 = .ok (.getfield 40, 3) := by decide +kernel
theorem dX9_clear_12 : decode cX9_clear 12 = .ok (.iconst 0, 1) := by decide +kernel
theorem dX9_clear_13 : decode cX9_clear 13 = .ok (.putfield 150, 3) := by decide +kernel
theorem dX9_clear_16 : decode cX9_clear 16 = .ok (.iload_n 1, 1) := by decide +kernel
theorem dX9_clear_17 : decode cX9_clear 17 = .ok (.ireturn, 1) := by decide +kernel
theorem dX9_read_0 : decode cX9_read 0 = .ok (.aload_n 0, 1) := by decide +kernel
theorem dX9_read_1 : decode cX9_read 1 = .ok (.getfield 32, 3) := by decide +kernel
theorem dX9_read_4 : decode cX9_read 4 = .ok (.invokevirtual 158, 3) := by decide +kernel
theorem dX9_read_7 : decode cX9_read 7 = .ok (.istore_n 1, 1) := by decide +kernel
theorem dX9_read_8 : decode cX9_read 8 = .ok (.aload_n 0, 1) := by decide +kernel
theorem dX9_read_9 : decode cX9_read 9 = .ok (.getfield 32, 3) := by decide +kernel
theorem dX9_read_12 : decode cX9_read 12 = .ok (.getfield 161, 3) := by decide +kernel
theorem dX9_read_15 : decode cX9_read 15 = .ok (.iconst (-1), 1) := by decide +kernel
theorem dX9_read_16 : decode cX9_read 16 = .ok (.if_icmp .eq 14, 3) := by decide +kernel
theorem dX9_read_19 : decode cX9_read 19 = .ok (.bipush (-10), 2) := by decide +kernel
theorem dX9_read_21 : decode cX9_read 21 = .ok (.aload_n 0, 1) := by decide +kernel
theorem dX9_read_22 : decode cX9_read 22 = .ok (.getfield 32, 3) := by decide +kernel
theorem dX9_read_25 : decode cX9_read 25 = .ok (.getfield 161, 3) := by decide +kernel
theorem dX9_read_28 : decode cX9_read 28 = .ok (.isub, 1) := by decide +kernel
theorem dX9_read_29 : decode cX9_read 29 = .ok (.ireturn, 1) := by decide +kernel
theorem dX9_read_30 : decode cX9_read 30 = .ok (.aload_n 0, 1) := by decide +kernel
theorem dX9_read_31 : decode cX9_read 31 = .ok (.getfield 26, 3) := by decide +kernel
theorem dX9_read_34 : decode cX9_read 34 = .ok (.aload_n 0, 1) := by decide +kernel
theorem dX9_read_35 : decode cX9_read 35 = .ok (.getfield 32, 3) := by decide +kernel
theorem dX9_read_38 : decode cX9_read 38 = .ok (.getfield 164, 3) := by decide +kernel
theorem dX9_read_41 : decode cX9_read 41 = .ok (.invokevirtual 167, 3) := by decide +kernel
theorem dX9_read_44 : decode cX9_read 44 = .ok (.aload_n 0, 1) := by decide +kernel
theorem dX9_read_45 : decode cX9_read 45 = .ok (.getfield 10, 3) := by decide +kernel
theorem dX9_read_48 : decode cX9_read 48 = .ok (.iconst 0, 1) := by decide +kernel
theorem dX9_read_49 : decode cX9_read 49 = .ok (.putfield 97, 3) := by decide +kernel
theorem dX9_read_52 : decode cX9_read 52 = .ok (.aload_n 0, 1) := by decide +kernel
theorem dX9_read_53 : decode cX9_read 53 = .ok (.getfield 58, 3) := by decide +kernel
theorem dX9_read_56 : decode cX9_read 56 = .ok (.iconst 1, 1) := by decide +kernel
theorem dX9_read_57 : decode cX9_read 57 = .ok (.putfield 100, 3) := by decide +kernel
theorem dX9_read_60 : decode cX9_read 60 = .ok (.iload_n 1, 1) := by decide +kernel
theorem dX9_read_61 : decode cX9_read 61 = .ok (.ireturn, 1) := by decide +kernel
theorem dX9_value_0 : decode cX9_value 0 = .ok (.aload_n 0, 1) := by decide +kernel
theorem dX9_value_1 : decode cX9_value 1 = .ok (.getfield 26, 3) := by decide +kernel
theorem dX9_value_4 : decode cX9_value 4 = .ok (.getfield 122, 3) := by decide +kernel
theorem dX9_value_7 : decode cX9_value 7 = .ok (.iload_n 1, 1) := by decide +kernel
theorem dX9_value_8 : decode cX9_value 8 = .ok (.invokevirtual 104, 3) := by decide +kernel
theorem dX9_value_11 : decode cX9_value 11 = .ok (.ifCond .eq 10, 3) := by decide +kernel
theorem dX9_value_14 : decode cX9_value 14 = .ok (.iload_n 2, 1) := by decide +kernel
theorem dX9_value_15 : decode cX9_value 15 = .ok (.invokestatic 119, 3) := by decide +kernel
theorem dX9_value_18 : decode cX9_value 18 = .ok (.ifCond .ne 10, 3) := by decide +kernel
theorem dX9_value_21 : decode cX9_value 21 = .ok (.aload_n 0, 1) := by decide +kernel
theorem dX9_value_22 : decode cX9_value 22 = .ok (.bipush (-2), 2) := by decide +kernel
theorem dX9_value_24 : decode cX9_value 24 = .ok (.invokevirtual 83, 3) := by decide +kernel
theorem dX9_value_27 : decode cX9_value 27 = .ok (.ireturn, 1) := by decide +kernel
theorem dX9_value_28 : decode cX9_value 28 = .ok (.aload_n 0, 1) := by decide +kernel
theorem dX9_value_29 : decode cX9_value 29 = .ok (.getfield 26, 3) := by decide +kernel
theorem dX9_value_32 : decode cX9_value 32 = .ok (.iload_n 1, 1) := by decide +kernel
theorem dX9_value_33 : decode cX9_value 33 = .ok (.iload_n 2, 1) := by decide +kernel
theorem dX9_value_34 : decode cX9_value 34 = .ok (.invokevirtual 171, 3) := by decide +kernel
theorem dX9_value_37 : decode cX9_value 37 = .ok (.ireturn, 1) := by decide +kernel
theorem dX9_of_0 : decode cX9_of 0 = .ok (.aload_n 0, 1) := by decide +kernel
theorem dX9_of_1 : decode cX9_of 1 = .ok (.getfield 26, 3) := by decide +kernel
theorem dX9_of_4 : decode cX9_of 4 = .ok (.getfield 122, 3) := by decide +kernel
theorem dX9_of_7 : decode cX9_of 7 = .ok (.iload_n 1, 1) := by decide +kernel
theorem dX9_of_8 : decode cX9_of 8 = .ok (.invokevirtual 104, 3) := by decide +kernel
theorem dX9_of_11 : decode cX9_of 11 = .ok (.ifCond .ne 10, 3) := by decide +kernel
theorem dX9_of_14 : decode cX9_of 14 = .ok (.aload_n 0, 1) := by decide +kernel
theorem dX9_of_15 : decode cX9_of 15 = .ok (.bipush (-2), 2) := by decide +kernel
theorem dX9_of_17 : decode cX9_of 17 = .ok (.invokevirtual 83, 3) := by decide +kernel
theorem dX9_of_20 : decode cX9_of 20 = .ok (.ireturn, 1) := by decide +kernel
theorem dX9_of_21 : decode cX9_of 21 = .ok (.aload_n 0, 1) := by decide +kernel
theorem dX9_of_22 : decode cX9_of 22 = .ok (.getfield 26, 3) := by decide +kernel
theorem dX9_of_25 : decode cX9_of 25 = .ok (.getfield 122, 3) := by decide +kernel
theorem dX9_of_28 : decode cX9_of 28 = .ok (.iload_n 1, 1) := by decide +kernel
theorem dX9_of_29 : decode cX9_of 29 = .ok (.iconst 2, 1) := by decide +kernel
theorem dX9_of_30 : decode cX9_of 30 = .ok (.invokevirtual 108, 3) := by decide +kernel
theorem dX9_of_33 : decode cX9_of 33 = .ok (.ireturn, 1) := by decide +kernel
theorem dX9_pass_0 : decode cX9_pass 0 = .ok (.aload_n 0, 1) := by decide +kernel
theorem dX9_pass_1 : decode cX9_pass 1 = .ok (.getfield 26, 3) := by decide +kernel
theorem dX9_pass_4 : decode cX9_pass 4 = .ok (.getfield 122, 3) := by decide +kernel
theorem dX9_pass_7 : decode cX9_pass 7 = .ok (.iload_n 1, 1) := by decide +kernel
theorem dX9_pass_8 : decode cX9_pass 8 = .ok (.invokevirtual 104, 3) := by decide +kernel
theorem dX9_pass_11 : decode cX9_pass 11 = .ok (.ifCond .eq 33, 3) := by decide +kernel
theorem dX9_pass_14 : decode cX9_pass 14 = .ok (.aload_n 0, 1) := by decide +kernel
theorem dX9_pass_15 : decode cX9_pass 15 = .ok (.getfield 26, 3) := by decide +kernel
theorem dX9_pass_18 : decode cX9_pass 18 = .ok (.getfield 87, 3) := by decide +kernel
theorem dX9_pass_21 : decode cX9_pass 21 = .ok (.iload_n 2, 1) := by decide +kernel
theorem dX9_pass_22 : decode cX9_pass 22 = .ok (.invokevirtual 104, 3) := by decide +kernel
theorem dX9_pass_25 : decode cX9_pass 25 = .ok (.ifCond .eq 19, 3) := by decide +kernel
theorem dX9_pass_28 : decode cX9_pass 28 = .ok (.aload_n 0, 1) := by decide +kernel
theorem dX9_pass_29 : decode cX9_pass 29 = .ok (.getfield 26, 3) := by decide +kernel
theorem dX9_pass_32 : decode cX9_pass 32 = .ok (.getfield 122, 3) := by decide +kernel
theorem dX9_pass_35 : decode cX9_pass 35 = .ok (.iload_n 1, 1) := by decide +kernel
theorem dX9_pass_36 : decode cX9_pass 36 = .ok (.iconst 2, 1) := by decide +kernel
theorem dX9_pass_37 : decode cX9_pass 37 = .ok (.invokevirtual 108, 3) := by decide +kernel
theorem dX9_pass_40 : decode cX9_pass 40 = .ok (.iload_n 2, 1) := by decide +kernel
theorem dX9_pass_41 : decode cX9_pass 41 = .ok (.if_icmp .ne 10, 3) := by decide +kernel
theorem dX9_pass_44 : decode cX9_pass 44 = .ok (.aload_n 0, 1) := by decide +kernel
theorem dX9_pass_45 : decode cX9_pass 45 = .ok (.bipush (-10), 2) := by decide +kernel
theorem dX9_pass_47 : decode cX9_pass 47 = .ok (.invokevirtual 83, 3) := by decide +kernel
theorem dX9_pass_50 : decode cX9_pass 50 = .ok (.ireturn, 1) := by decide +kernel
theorem dX9_pass_51 : decode cX9_pass 51 = .ok (.aload_n 0, 1) := by decide +kernel
theorem dX9_pass_52 : decode cX9_pass 52 = .ok (.getfield 26, 3) := by decide +kernel
theorem dX9_pass_55 : decode cX9_pass 55 = .ok (.iload_n 1, 1) := by decide +kernel
theorem dX9_pass_56 : decode cX9_pass 56 = .ok (.invokevirtual 174, 3) := by decide +kernel
theorem dX9_pass_59 : decode cX9_pass 59 = .ok (.ifCond .eq 19, 3) := by decide +kernel
theorem dX9_pass_62 : decode cX9_pass 62 = .ok (.aload_n 0, 1) := by decide +kernel
theorem dX9_pass_63 : decode cX9_pass 63 = .ok (.getfield 26, 3) := by decide +kernel
theorem dX9_pass_66 : decode cX9_pass 66 = .ok (.getfield 122, 3) := by decide +kernel
theorem dX9_pass_69 : decode cX9_pass 69 = .ok (.iload_n 1, 1) := by decide +kernel
theorem dX9_pass_70 : decode cX9_pass 70 = .ok (.iconst 0, 1) := by decide +kernel
theorem dX9_pass_71 : decode cX9_pass 71 = .ok (.invokevirtual 108, 3) := by decide +kernel
theorem dX9_pass_74 : decode cX9_pass 74 = .ok (.iconst 2, 1) := by decide +kernel
theorem dX9_pass_75 : decode cX9_pass 75 = .ok (.if_icmp .ne 10, 3) := by decide +kernel
theorem dX9_pass_78 : decode cX9_pass 78 = .ok (.aload_n 0, 1) := by decide +kernel
theorem dX9_pass_79 : decode cX9_pass 79 = .ok (.bipush (-20), 2) := by decide +kernel
theorem dX9_pass_81 : decode cX9_pass 81 = .ok (.invokevirtual 177, 3) := by decide +kernel
theorem dX9_pass_84 : decode cX9_pass 84 = .ok (.ireturn, 1) := by decide +kernel
theorem dX9_pass_85 : decode cX9_pass 85 = .ok (.aload_n 0, 1) := by decide +kernel
theorem dX9_pass_86 : decode cX9_pass 86 = .ok (.getfield 26, 3) := by decide +kernel
theorem dX9_pass_89 : decode cX9_pass 89 = .ok (.getfield 122, 3) := by decide +kernel
theorem dX9_pass_92 : decode cX9_pass 92 = .ok (.iload_n 1, 1) := by decide +kernel
theorem dX9_pass_93 : decode cX9_pass 93 = .ok (.iconst 1, 1) := by decide +kernel
theorem dX9_pass_94 : decode cX9_pass 94 = .ok (.invokevirtual 108, 3) := by decide +kernel
theorem dX9_pass_97 : decode cX9_pass 97 = .ok (.iload_n 2, 1) := by decide +kernel
theorem dX9_pass_98 : decode cX9_pass 98 = .ok (.if_icmp .ne 7, 3) := by decide +kernel
theorem dX9_pass_101 : decode cX9_pass 101 = .ok (.iconst 1, 1) := by decide +kernel
theorem dX9_pass_102 : decode cX9_pass 102 = .ok (.goto 4, 3) := by decide +kernel
theorem dX9_pass_105 : decode cX9_pass 105 = .ok (.iconst 0, 1) := by decide +kernel
theorem dX9_pass_106 : decode cX9_pass 106 = .ok (.istore_n 3, 1) := by decide +kernel
theorem dX9_pass_107 : decode cX9_pass 107 = .ok (.aload_n 0, 1) := by decide +kernel
theorem dX9_pass_108 : decode cX9_pass 108 = .ok (.getfield 26, 3) := by decide +kernel
theorem dX9_pass_111 : decode cX9_pass 111 = .ok (.getfield 122, 3) := by decide +kernel
theorem dX9_pass_114 : decode cX9_pass 114 = .ok (.iload_n 1, 1) := by decide +kernel
theorem dX9_pass_115 : decode cX9_pass 115 = .ok (.iconst 2, 1) := by decide +kernel
theorem dX9_pass_116 : decode cX9_pass 116 = .ok (.iload_n 3, 1) := by decide +kernel
theorem dX9_pass_117 : decode cX9_pass 117 = .ok (.ifCond .eq 7, 3) := by decide +kernel
theorem dX9_pass_120 : decode cX9_pass 120 = .ok (.iconst (-1), 1) := by decide +kernel
theorem dX9_pass_121 : decode cX9_pass 121 = .ok (.goto 4, 3) := by decide +kernel
theorem dX9_pass_124 : decode cX9_pass 124 = .ok (.iload_n 2, 1) := by decide +kernel
theorem dX9_pass_125 : decode cX9_pass 125 = .ok (.invokevirtual 112, 3) := by decide +kernel
theorem dX9_pass_128 : decode cX9_pass 128 = .ok (.aload_n 0, 1) := by decide +kernel
theorem dX9_pass_129 : decode cX9_pass 129 = .ok (.getfield 58, 3) := by decide +kernel
theorem dX9_pass_132 : decode cX9_pass 132 = .ok (.iconst 1, 1) := by decide +kernel
theorem dX9_pass_133 : decode cX9_pass 133 = .ok (.putfield 100, 3) := by decide +kernel
theorem dX9_pass_136 : decode cX9_pass 136 = .ok (.iload_n 3, 1) := by decide +kernel
theorem dX9_pass_137 : decode cX9_pass 137 = .ok (.ifCond .eq 7, 3) := by decide +kernel
theorem dX9_pass_140 : decode cX9_pass 140 = .ok (.iconst 0, 1) := by decide +kernel
theorem dX9_pass_141 : decode cX9_pass 141 = .ok (.goto 4, 3) := by decide +kernel
theorem dX9_pass_144 : decode cX9_pass 144 = .ok (.iconst 1, 1) := by decide +kernel
theorem dX9_pass_145 : decode cX9_pass 145 = .ok (.ireturn, 1) := by decide +kernel
theorem dX9_join_0 : decode cX9_join 0 = .ok (.aload_n 0, 1) := by decide +kernel
theorem dX9_join_1 : decode cX9_join 1 = .ok (.getfield 26, 3) := by decide +kernel
theorem dX9_join_4 : decode cX9_join 4 = .ok (.getfield 122, 3) := by decide +kernel
theorem dX9_join_7 : decode cX9_join 7 = .ok (.iload_n 1, 1) := by decide +kernel
theorem dX9_join_8 : decode cX9_join 8 = .ok (.invokevirtual 104, 3) := by decide +kernel
theorem dX9_join_11 : decode cX9_join 11 = .ok (.ifCond .eq 22, 3) := by decide +kernel
theorem dX9_join_14 : decode cX9_join 14 = .ok (.aload_n 0, 1) := by decide +kernel
theorem dX9_join_15 : decode cX9_join 15 = .ok (.getfield 26, 3) := by decide +kernel
theorem dX9_join_18 : decode cX9_join 18 = .ok (.getfield 122, 3) := by decide +kernel
theorem dX9_join_21 : decode cX9_join 21 = .ok (.iload_n 2, 1) := by decide +kernel
theorem dX9_join_22 : decode cX9_join 22 = .ok (.invokevirtual 104, 3) := by decide +kernel
theorem dX9_join_25 : decode cX9_join 25 = .ok (.ifCond .eq 8, 3) := by decide +kernel
theorem dX9_join_28 : decode cX9_join 28 = .ok (.iload_n 1, 1) := by decide +kernel
theorem dX9_join_29 : decode cX9_join 29 = .ok (.iload_n 2, 1) := by decide +kernel
theorem dX9_join_30 : decode cX9_join 30 = .ok (.if_icmp .ne 10, 3) := by decide +kernel
theorem dX9_join_33 : decode cX9_join 33 = .ok (.aload_n 0, 1) := by decide +kernel
theorem dX9_join_34 : decode cX9_join 34 = .ok (.bipush (-2), 2) := by decide +kernel
theorem dX9_join_36 : decode cX9_join 36 = .ok (.invokevirtual 83, 3) := by decide +kernel
theorem dX9_join_39 : decode cX9_join 39 = .ok (.ireturn, 1) := by decide +kernel
theorem dX9_join_40 : decode cX9_join 40 = .ok (.aload_n 0, 1) := by decide +kernel
theorem dX9_join_41 : decode cX9_join 41 = .ok (.getfield 26, 3) := by decide +kernel
theorem dX9_join_44 : decode cX9_join 44 = .ok (.iload_n 1, 1) := by decide +kernel
theorem dX9_join_45 : decode cX9_join 45 = .ok (.iload_n 2, 1) := by decide +kernel
theorem dX9_join_46 : decode cX9_join 46 = .ok (.invokevirtual 180, 3) := by decide +kernel
theorem dX9_join_49 : decode cX9_join 49 = .ok (.ifCond .eq 25, 3) := by decide +kernel
theorem dX9_join_52 : decode cX9_join 52 = .ok (.aload_n 0, 1) := by decide +kernel
theorem dX9_join_53 : decode cX9_join 53 = .ok (.getfield 26, 3) := by decide +kernel
theorem dX9_join_56 : decode cX9_join 56 = .ok (.iload_n 1, 1) := by decide +kernel
theorem dX9_join_57 : decode cX9_join 57 = .ok (.invokevirtual 174, 3) := by decide +kernel
theorem dX9_join_60 : decode cX9_join 60 = .ok (.ifCond .eq 14, 3) := by decide +kernel
theorem dX9_join_63 : decode cX9_join 63 = .ok (.aload_n 0, 1) := by decide +kernel
theorem dX9_join_64 : decode cX9_join 64 = .ok (.getfield 26, 3) := by decide +kernel
theorem dX9_join_67 : decode cX9_join 67 = .ok (.iload_n 2, 1) := by decide +kernel
theorem dX9_join_68 : decode cX9_join 68 = .ok (.invokevirtual 174, 3) := by decide +kernel
theorem dX9_join_71 : decode cX9_join 71 = .ok (.ifCond .ne 10, 3) := by decide +kernel
theorem dX9_join_74 : decode cX9_join 74 = .ok (.aload_n 0, 1) := by decide +kernel
theorem dX9_join_75 : decode cX9_join 75 = .ok (.bipush (-3), 2) := by decide +kernel
theorem dX9_join_77 : decode cX9_join 77 = .ok (.invokevirtual 177, 3) := by decide +kernel
theorem dX9_join_80 : decode cX9_join 80 = .ok (.ireturn, 1) := by decide +kernel
theorem dX9_join_81 : decode cX9_join 81 = .ok (.aload_n 0, 1) := by decide +kernel
theorem dX9_join_82 : decode cX9_join 82 = .ok (.getfield 58, 3) := by decide +kernel
theorem dX9_join_85 : decode cX9_join 85 = .ok (.iconst 1, 1) := by decide +kernel
theorem dX9_join_86 : decode cX9_join 86 = .ok (.putfield 100, 3) := by decide +kernel
theorem dX9_join_89 : decode cX9_join 89 = .ok (.aload_n 0, 1) := by decide +kernel
theorem dX9_join_90 : decode cX9_join 90 = .ok (.getfield 26, 3) := by decide +kernel
theorem dX9_join_93 : decode cX9_join 93 = .ok (.iload_n 1, 1) := by decide +kernel
theorem dX9_join_94 : decode cX9_join 94 = .ok (.iload_n 2, 1) := by decide +kernel
theorem dX9_join_95 : decode cX9_join 95 = .ok (.invokevirtual 184, 3) := by decide +kernel
theorem dX9_join_98 : decode cX9_join 98 = .ok (.ireturn, 1) := by decide +kernel
theorem dX9_ask_0 : decode cX9_ask 0 = .ok (.aload_n 0, 1) := by decide +kernel
theorem dX9_ask_1 : decode cX9_ask 1 = .ok (.getfield 26, 3) := by decide +kernel
theorem dX9_ask_4 : decode cX9_ask 4 = .ok (.getfield 122, 3) := by decide +kernel
