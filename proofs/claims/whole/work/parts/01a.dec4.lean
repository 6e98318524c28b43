/-! ===== what stands at each place of the code ===== -/
theorem dX10_doneFor_68 : decode cX10_doneFor 68 = .ok (.ireturn, 1) := by decide +kernel
theorem dX10_fire_0 : decode cX10_fire 0 = .ok (.iload_n 1, 1) := by decide +kernel
theorem dX10_fire_1 : decode cX10_fire 1 = .ok (.invokestatic 95, 3) := by decide +kernel
theorem dX10_fire_4 : decode cX10_fire 4 = .ok (.ifCond .eq 13, 3) := by decide +kernel
theorem dX10_fire_7 : decode cX10_fire 7 = .ok (.iload_n 2, 1) := by decide +kernel
theorem dX10_fire_8 : decode cX10_fire 8 = .ok (.i2l, 1) := by decide +kernel
theorem dX10_fire_9 : decode cX10_fire 9 = .ok (.lconst 0, 1) := by decide +kernel
theorem dX10_fire_10 : decode cX10_fire 10 = .ok (.lconst 1, 1) := by decide +kernel
theorem dX10_fire_11 : decode cX10_fire 11 = .ok (.invokestatic 68, 3) := by decide +kernel
theorem dX10_fire_14 : decode cX10_fire 14 = .ok (.ifCond .ne 10, 3) := by decide +kernel
theorem dX10_fire_17 : decode cX10_fire 17 = .ok (.aload_n 0, 1) := by decide +kernel
theorem dX10_fire_18 : decode cX10_fire 18 = .ok (.bipush (-2), 2) := by decide +kernel
theorem dX10_fire_20 : decode cX10_fire 20 = .ok (.invokevirtual 80, 3) := by decide +kernel
theorem dX10_fire_23 : decode cX10_fire 23 = .ok (.ireturn, 1) := by decide +kernel
theorem dX10_fire_24 : decode cX10_fire 24 = .ok (.iconst 0, 1) := by decide +kernel
theorem dX10_fire_25 : decode cX10_fire 25 = .ok (.istore_n 3, 1) := by decide +kernel
theorem dX10_fire_26 : decode cX10_fire 26 = .ok (.iconst 0, 1) := by decide +kernel
theorem dX10_fire_27 : decode cX10_fire 27 = .ok (.istore 4, 2) := by decide +kernel
theorem dX10_fire_29 : decode cX10_fire 29 = .ok (.iconst 1, 1) := by decide +kernel
theorem dX10_fire_30 : decode cX10_fire 30 = .ok (.istore 5, 2) := by decide +kernel
theorem dX10_fire_32 : decode cX10_fire 32 = .ok (.iload 5, 2) := by decide +kernel
theorem dX10_fire_34 : decode cX10_fire 34 = .ok (.ifCond .eq 99, 3) := by decide +kernel
theorem dX10_fire_37 : decode cX10_fire 37 = .ok (.iload_n 3, 1) := by decide +kernel
theorem dX10_fire_38 : decode cX10_fire 38 = .ok (.istore 6, 2) := by decide +kernel
theorem dX10_fire_40 : decode cX10_fire 40 = .ok (.iconst 0, 1) := by decide +kernel
theorem dX10_fire_41 : decode cX10_fire 41 = .ok (.istore 7, 2) := by decide +kernel
theorem dX10_fire_43 : decode cX10_fire 43 = .ok (.iload 7, 2) := by decide +kernel
theorem dX10_fire_45 : decode cX10_fire 45 = .ok (.aload_n 0, 1) := by decide +kernel
theorem dX10_fire_46 : decode cX10_fire 46 = .ok (.invokevirtual 64, 3) := by decide +kernel
theorem dX10_fire_49 : decode cX10_fire 49 = .ok (.if_icmp .ge 50, 3) := by decide +kernel
theorem dX10_fire_52 : decode cX10_fire 52 = .ok (.iload 6, 2) := by decide +kernel
theorem dX10_fire_54 : decode cX10_fire 54 = .ok (.aload_n 0, 1) := by decide +kernel
theorem dX10_fire_55 : decode cX10_fire 55 = .ok (.iload 7, 2) := by decide +kernel
theorem dX10_fire_57 : decode cX10_fire 57 = .ok (.iload_n 1, 1) := by decide +kernel
theorem dX10_fire_58 : decode cX10_fire 58 = .ok (.invokevirtual 176, 3) := by decide +kernel
theorem dX10_fire_61 : decode cX10_fire 61 = .ok (.aload_n 0, 1) := by decide +kernel
theorem dX10_fire_62 : decode cX10_fire 62 = .ok (.getfield 7, 3) := by decide +kernel
theorem dX10_fire_65 : decode cX10_fire 65 = .ok (.iconst 2, 1) := by decide +kernel
theorem dX10_fire_66 : decode cX10_fire 66 = .ok (.iload 7, 2) := by decide +kernel
theorem dX10_fire_68 : decode cX10_fire 68 = .ok (.iadd, 1) := by decide +kernel
theorem dX10_fire_69 : decode cX10_fire 69 = .ok (.iaload, 1) := by decide +kernel
theorem dX10_fire_70 : decode cX10_fire 70 = .ok (.aload_n 0, 1) := by decide +kernel
theorem dX10_fire_71 : decode cX10_fire 71 = .ok (.iload 7, 2) := by decide +kernel
theorem dX10_fire_73 : decode cX10_fire 73 = .ok (.iload_n 1, 1) := by decide +kernel
theorem dX10_fire_74 : decode cX10_fire 74 = .ok (.iload_n 3, 1) := by decide +kernel
theorem dX10_fire_75 : decode cX10_fire 75 = .ok (.invokevirtual 179, 3) := by decide +kernel
theorem dX10_fire_78 : decode cX10_fire 78 = .ok (.iadd, 1) := by decide +kernel
theorem dX10_fire_79 : decode cX10_fire 79 = .ok (.if_icmp .le 10, 3) := by decide +kernel
theorem dX10_fire_82 : decode cX10_fire 82 = .ok (.iconst 1, 1) := by decide +kernel
theorem dX10_fire_83 : decode cX10_fire 83 = .ok (.iload 7, 2) := by decide +kernel
theorem dX10_fire_85 : decode cX10_fire 85 = .ok (.ishl, 1) := by decide +kernel
theorem dX10_fire_86 : decode cX10_fire 86 = .ok (.goto 4, 3) := by decide +kernel
theorem dX10_fire_89 : decode cX10_fire 89 = .ok (.iconst 0, 1) := by decide +kernel
theorem dX10_fire_90 : decode cX10_fire 90 = .ok (.ior, 1) := by decide +kernel
theorem dX10_fire_91 : decode cX10_fire 91 = .ok (.istore 6, 2) := by decide +kernel
theorem dX10_fire_93 : decode cX10_fire 93 = .ok (.iinc 7 1, 3) := by decide +kernel
theorem dX10_fire_96 : decode cX10_fire 96 = .ok (.goto (-53), 3) := by decide +kernel
theorem dX10_fire_99 : decode cX10_fire 99 = .ok (.iload 6, 2) := by decide +kernel
theorem dX10_fire_101 : decode cX10_fire 101 = .ok (.iload_n 3, 1) := by decide +kernel
theorem dX10_fire_102 : decode cX10_fire 102 = .ok (.if_icmp .eq 7, 3) := by decide +kernel
theorem dX10_fire_105 : decode cX10_fire 105 = .ok (.iconst 1, 1) := by decide +kernel
theorem dX10_fire_106 : decode cX10_fire 106 = .ok (.goto 4, 3) := by decide +kernel
theorem dX10_fire_109 : decode cX10_fire 109 = .ok (.iconst 0, 1) := by decide +kernel
theorem dX10_fire_110 : decode cX10_fire 110 = .ok (.istore 5, 2) := by decide +kernel
theorem dX10_fire_112 : decode cX10_fire 112 = .ok (.iload 4, 2) := by decide +kernel
theorem dX10_fire_114 : decode cX10_fire 114 = .ok (.iload 5, 2) := by decide +kernel
theorem dX10_fire_116 : decode cX10_fire 116 = .ok (.ifCond .eq 7, 3) := by decide +kernel
theorem dX10_fire_119 : decode cX10_fire 119 = .ok (.iconst 1, 1) := by decide +kernel
theorem dX10_fire_120 : decode cX10_fire 120 = .ok (.goto 4, 3) := by decide +kernel
theorem dX10_fire_123 : decode cX10_fire 123 = .ok (.iconst 0, 1) := by decide +kernel
theorem dX10_fire_124 : decode cX10_fire 124 = .ok (.iadd, 1) := by decide +kernel
theorem dX10_fire_125 : decode cX10_fire 125 = .ok (.istore 4, 2) := by decide +kernel
theorem dX10_fire_127 : decode cX10_fire 127 = .ok (.iload 6, 2) := by decide +kernel
theorem dX10_fire_129 : decode cX10_fire 129 = .ok (.istore_n 3, 1) := by decide +kernel
theorem dX10_fire_130 : decode cX10_fire 130 = .ok (.goto (-98), 3) := by decide +kernel
theorem dX10_fire_133 : decode cX10_fire 133 = .ok (.iload_n 2, 1) := by decide +kernel
theorem dX10_fire_134 : decode cX10_fire 134 = .ok (.ifCond .ne 7, 3) := by decide +kernel
theorem dX10_fire_137 : decode cX10_fire 137 = .ok (.iload_n 3, 1) := by decide +kernel
theorem dX10_fire_138 : decode cX10_fire 138 = .ok (.goto 5, 3) := by decide +kernel
theorem dX10_fire_141 : decode cX10_fire 141 = .ok (.iload 4, 2) := by decide +kernel
theorem dX10_fire_143 : decode cX10_fire 143 = .ok (.ireturn, 1) := by decide +kernel
theorem dX10_ratesBy_0 : decode cX10_ratesBy 0 = .ok (.iconst 0, 1) := by decide +kernel
theorem dX10_ratesBy_1 : decode cX10_ratesBy 1 = .ok (.istore_n 2, 1) := by decide +kernel
theorem dX10_ratesBy_2 : decode cX10_ratesBy 2 = .ok (.iconst 0, 1) := by decide +kernel
theorem dX10_ratesBy_3 : decode cX10_ratesBy 3 = .ok (.istore_n 3, 1) := by decide +kernel
theorem dX10_ratesBy_4 : decode cX10_ratesBy 4 = .ok (.iload_n 3, 1) := by decide +kernel
theorem dX10_ratesBy_5 : decode cX10_ratesBy 5 = .ok (.aload_n 0, 1) := by decide +kernel
theorem dX10_ratesBy_6 : decode cX10_ratesBy 6 = .ok (.getfield 7, 3) := by decide +kernel
theorem dX10_ratesBy_9 : decode cX10_ratesBy 9 = .ok (.sipush 159, 3) := by decide +kernel
theorem dX10_ratesBy_12 : decode cX10_ratesBy 12 = .ok (.iaload, 1) := by decide +kernel
theorem dX10_ratesBy_13 : decode cX10_ratesBy 13 = .ok (.if_icmp .ge 27, 3) := by decide +kernel
theorem dX10_ratesBy_16 : decode cX10_ratesBy 16 = .ok (.iload_n 2, 1) := by decide +kernel
theorem dX10_ratesBy_17 : decode cX10_ratesBy 17 = .ok (.aload_n 0, 1) := by decide +kernel
theorem dX10_ratesBy_18 : decode cX10_ratesBy 18 = .ok (.iload_n 3, 1) := by decide +kernel
theorem dX10_ratesBy_19 : decode cX10_ratesBy 19 = .ok (.iconst 1, 1) := by decide +kernel
theorem dX10_ratesBy_20 : decode cX10_ratesBy 20 = .ok (.invokevirtual 155, 3) := by decide +kernel
theorem dX10_ratesBy_23 : decode cX10_ratesBy 23 = .ok (.iload_n 1, 1) := by decide +kernel
theorem dX10_ratesBy_24 : decode cX10_ratesBy 24 = .ok (.if_icmp .ne 7, 3) := by decide +kernel
theorem dX10_ratesBy_27 : decode cX10_ratesBy 27 = .ok (.iconst 1, 1) := by decide +kernel
theorem dX10_ratesBy_28 : decode cX10_ratesBy 28 = .ok (.goto 4, 3) := by decide +kernel
theorem dX10_ratesBy_31 : decode cX10_ratesBy 31 = .ok (.iconst 0, 1) := by decide +kernel
theorem dX10_ratesBy_32 : decode cX10_ratesBy 32 = .ok (.iadd, 1) := by decide +kernel
theorem dX10_ratesBy_33 : decode cX10_ratesBy 33 = .ok (.istore_n 2, 1) := by decide +kernel
theorem dX10_ratesBy_34 : decode cX10_ratesBy 34 = .ok (.iinc 3 1, 3) := by decide +kernel
theorem dX10_ratesBy_37 : decode cX10_ratesBy 37 = .ok (.goto (-33), 3) := by decide +kernel
theorem dX10_ratesBy_40 : decode cX10_ratesBy 40 = .ok (.iconst 0, 1) := by decide +kernel
theorem dX10_ratesBy_41 : decode cX10_ratesBy 41 = .ok (.istore_n 3, 1) := by decide +kernel
theorem dX10_ratesBy_42 : decode cX10_ratesBy 42 = .ok (.iload_n 3, 1) := by decide +kernel
theorem dX10_ratesBy_43 : decode cX10_ratesBy 43 = .ok (.aload_n 0, 1) := by decide +kernel
theorem dX10_ratesBy_44 : decode cX10_ratesBy 44 = .ok (.getfield 7, 3) := by decide +kernel
theorem dX10_ratesBy_47 : decode cX10_ratesBy 47 = .ok (.sipush 158, 3) := by decide +kernel
theorem dX10_ratesBy_50 : decode cX10_ratesBy 50 = .ok (.iaload, 1) := by decide +kernel
theorem dX10_ratesBy_51 : decode cX10_ratesBy 51 = .ok (.if_icmp .ge 35, 3) := by decide +kernel
theorem dX10_ratesBy_54 : decode cX10_ratesBy 54 = .ok (.iload_n 2, 1) := by decide +kernel
theorem dX10_ratesBy_55 : decode cX10_ratesBy 55 = .ok (.aload_n 0, 1) := by decide +kernel
theorem dX10_ratesBy_56 : decode cX10_ratesBy 56 = .ok (.iload_n 3, 1) := by decide +kernel
theorem dX10_ratesBy_57 : decode cX10_ratesBy 57 = .ok (.iconst 3, 1) := by decide +kernel
theorem dX10_ratesBy_58 : decode cX10_ratesBy 58 = .ok (.invokevirtual 112, 3) := by decide +kernel
theorem dX10_ratesBy_61 : decode cX10_ratesBy 61 = .ok (.iload_n 1, 1) := by decide +kernel
theorem dX10_ratesBy_62 : decode cX10_ratesBy 62 = .ok (.if_icmp .ne 15, 3) := by decide +kernel
theorem dX10_ratesBy_65 : decode cX10_ratesBy 65 = .ok (.aload_n 0, 1) := by decide +kernel
theorem dX10_ratesBy_66 : decode cX10_ratesBy 66 = .ok (.iload_n 3, 1) := by decide +kernel
theorem dX10_ratesBy_67 : decode cX10_ratesBy 67 = .ok (.invokevirtual 125, 3) := by decide +kernel
theorem dX10_ratesBy_70 : decode cX10_ratesBy 70 = .ok (.ifCond .le 7, 3) := by decide +kernel
theorem dX10_ratesBy_73 : decode cX10_ratesBy 73 = .ok (.iconst 1, 1) := by decide +kernel
theorem dX10_ratesBy_74 : decode cX10_ratesBy 74 = .ok (.goto 4, 3) := by decide +kernel
theorem dX10_ratesBy_77 : decode cX10_ratesBy 77 = .ok (.iconst 0, 1) := by decide +kernel
theorem dX10_ratesBy_78 : decode cX10_ratesBy 78 = .ok (.isub, 1) := by decide +kernel
theorem dX10_ratesBy_79 : decode cX10_ratesBy 79 = .ok (.istore_n 2, 1) := by decide +kernel
theorem dX10_ratesBy_80 : decode cX10_ratesBy 80 = .ok (.iinc 3 1, 3) := by decide +kernel
theorem dX10_ratesBy_83 : decode cX10_ratesBy 83 = .ok (.goto (-41), 3) := by decide +kernel
theorem dX10_ratesBy_86 : decode cX10_ratesBy 86 = .ok (.iload_n 2, 1) := by decide +kernel
theorem dX10_ratesBy_87 : decode cX10_ratesBy 87 = .ok (.ireturn, 1) := by decide +kernel
theorem dX10_hold_0 : decode cX10_hold 0 = .ok (.iload_n 0, 1) := by decide +kernel
theorem dX10_hold_1 : decode cX10_hold 1 = .ok (.iconst 1, 1) := by decide +kernel
theorem dX10_hold_2 : decode cX10_hold 2 = .ok (.if_icmp .ge 7, 3) := by decide +kernel
theorem dX10_hold_5 : decode cX10_hold 5 = .ok (.iconst 1, 1) := by decide +kernel
theorem dX10_hold_6 : decode cX10_hold 6 = .ok (.goto 15, 3) := by decide +kernel
theorem dX10_hold_9 : decode cX10_hold 9 = .ok (.iload_n 0, 1) := by decide +kernel
theorem dX10_hold_10 : decode cX10_hold 10 = .ok (.bipush 99, 2) := by decide +kernel
theorem dX10_hold_12 : decode cX10_hold 12 = .ok (.if_icmp .le 8, 3) := by decide +kernel
theorem dX10_hold_15 : decode cX10_hold 15 = .ok (.bipush 99, 2) := by decide +kernel
theorem dX10_hold_17 : decode cX10_hold 17 = .ok (.goto 4, 3) := by decide +kernel
theorem dX10_hold_20 : decode cX10_hold 20 = .ok (.iload_n 0, 1) := by decide +kernel
theorem dX10_hold_21 : decode cX10_hold 21 = .ok (.ireturn, 1) := by decide +kernel
theorem dX10_rate_0 : decode cX10_rate 0 = .ok (.iload_n 1, 1) := by decide +kernel
theorem dX10_rate_1 : decode cX10_rate 1 = .ok (.invokestatic 90, 3) := by decide +kernel
theorem dX10_rate_4 : decode cX10_rate 4 = .ok (.ifCond .eq 15, 3) := by decide +kernel
theorem dX10_rate_7 : decode cX10_rate 7 = .ok (.iload_n 2, 1) := by decide +kernel
theorem dX10_rate_8 : decode cX10_rate 8 = .ok (.i2l, 1) := by decide +kernel
theorem dX10_rate_9 : decode cX10_rate 9 = .ok (.lconst 0, 1) := by decide +kernel
theorem dX10_rate_10 : decode cX10_rate 10 = .ok (.ldc2_w 72, 3) := by decide +kernel
theorem dX10_rate_13 : decode cX10_rate 13 = .ok (.invokestatic 68, 3) := by decide +kernel
theorem dX10_rate_16 : decode cX10_rate 16 = .ok (.ifCond .ne 10, 3) := by decide +kernel
theorem dX10_rate_19 : decode cX10_rate 19 = .ok (.aload_n 0, 1) := by decide +kernel
theorem dX10_rate_20 : decode cX10_rate 20 = .ok (.bipush (-2), 2) := by decide +kernel
theorem dX10_rate_22 : decode cX10_rate 22 = .ok (.invokevirtual 80, 3) := by decide +kernel
theorem dX10_rate_25 : decode cX10_rate 25 = .ok (.ireturn, 1) := by decide +kernel
theorem dX10_rate_26 : decode cX10_rate 26 = .ok (.aload_n 0, 1) := by decide +kernel
theorem dX10_rate_27 : decode cX10_rate 27 = .ok (.getfield 7, 3) := by decide +kernel
theorem dX10_rate_30 : decode cX10_rate 30 = .ok (.sipush 154, 3) := by decide +kernel
theorem dX10_rate_33 : decode cX10_rate 33 = .ok (.iload_n 1, 1) := by decide +kernel
theorem dX10_rate_34 : decode cX10_rate 34 = .ok (.iadd, 1) := by decide +kernel
theorem dX10_rate_35 : decode cX10_rate 35 = .ok (.iaload, 1) := by decide +kernel
theorem dX10_rate_36 : decode cX10_rate 36 = .ok (.istore_n 3, 1) := by decide +kernel
theorem dX10_rate_37 : decode cX10_rate 37 = .ok (.aload_n 0, 1) := by decide +kernel
theorem dX10_rate_38 : decode cX10_rate 38 = .ok (.iload_n 1, 1) := by decide +kernel
theorem dX10_rate_39 : decode cX10_rate 39 = .ok (.invokevirtual 183, 3) := by decide +kernel
theorem dX10_rate_42 : decode cX10_rate 42 = .ok (.istore 4, 2) := by decide +kernel
theorem dX10_rate_44 : decode cX10_rate 44 = .ok (.iconst 0, 1) := by decide +kernel
theorem dX10_rate_45 : decode cX10_rate 45 = .ok (.istore 5, 2) := by decide +kernel
theorem dX10_rate_47 : decode cX10_rate 47 = .ok (.iload 5, 2) := by decide +kernel
theorem dX10_rate_49 : decode cX10_rate 49 = .ok (.iload_n 2, 1) := by decide +kernel
theorem dX10_rate_50 : decode cX10_rate 50 = .ok (.if_icmp .ge 17, 3) := by decide +kernel
theorem dX10_rate_53 : decode cX10_rate 53 = .ok (.iload_n 3, 1) := by decide +kernel
theorem dX10_rate_54 : decode cX10_rate 54 = .ok (.iload 4, 2) := by decide +kernel
theorem dX10_rate_56 : decode cX10_rate 56 = .ok (.iadd, 1) := by decide +kernel
theorem dX10_rate_57 : decode cX10_rate 57 = .ok (.invokestatic 186, 3) := by decide +kernel
theorem dX10_rate_60 : decode cX10_rate 60 = .ok (.istore_n 3, 1) := by decide +kernel
theorem dX10_rate_61 : decode cX10_rate 61 = .ok (.iinc 5 1, 3) := by decide +kernel
theorem dX10_rate_64 : decode cX10_rate 64 = .ok (.goto (-17), 3) := by decide +kernel
theorem dX10_rate_67 : decode cX10_rate 67 = .ok (.iload_n 3, 1) := by decide +kernel
theorem dX10_rate_68 : decode cX10_rate 68 = .ok (.ireturn, 1) := by decide +kernel
theorem dX10_set_0 : decode cX10_set 0 = .ok (.iload_n 1, 1) := by decide +kernel
theorem dX10_set_1 : decode cX10_set 1 = .ok (.invokestatic 90, 3) := by decide +kernel
theorem dX10_set_4 : decode cX10_set 4 = .ok (.ifCond .eq 15, 3) := by decide +kernel
theorem dX10_set_7 : decode cX10_set 7 = .ok (.iload_n 2, 1) := by decide +kernel
theorem dX10_set_8 : decode cX10_set 8 = .ok (.i2l, 1) := by decide +kernel
theorem dX10_set_9 : decode cX10_set 9 = .ok (.lconst 1, 1) := by decide +kernel
theorem dX10_set_10 : decode cX10_set 10 = .ok (.ldc2_w 72, 3) := by decide +kernel
theorem dX10_set_13 : decode cX10_set 13 = .ok (.invokestatic 68, 3) := by decide +kernel
theorem dX10_set_16 : decode cX10_set 16 = .ok (.ifCond .ne 10, 3) := by decide +kernel
theorem dX10_set_19 : decode cX10_set 19 = .ok (.aload_n 0, 1) := by decide +kernel
theorem dX10_set_20 : decode cX10_set 20 = .ok (.bipush (-2), 2) := by decide +kernel
theorem dX10_set_22 : decode cX10_set 22 = .ok (.invokevirtual 80, 3) := by decide +kernel
theorem dX10_set_25 : decode cX10_set 25 = .ok (.ireturn, 1) := by decide +kernel
theorem dX10_set_26 : decode cX10_set 26 = .ok (.aload_n 0, 1) := by decide +kernel
theorem dX10_set_27 : decode cX10_set 27 = .ok (.getfield 7, 3) := by decide +kernel
theorem dX10_set_30 : decode cX10_set 30 = .ok (.sipush 154, 3) := by decide +kernel
theorem dX10_set_33 : decode cX10_set 33 = .ok (.iload_n 1, 1) := by decide +kernel
theorem dX10_set_34 : decode cX10_set 34 = .ok (.iadd, 1) := by decide +kernel
theorem dX10_set_35 : decode cX10_set 35 = .ok (.iaload, 1) := by decide +kernel
theorem dX10_set_36 : decode cX10_set 36 = .ok (.istore_n 3, 1) := by decide +kernel
theorem dX10_set_37 : decode cX10_set 37 = .ok (.aload_n 0, 1) := by decide +kernel
theorem dX10_set_38 : decode cX10_set 38 = .ok (.getfield 7, 3) := by decide +kernel
theorem dX10_set_41 : decode cX10_set 41 = .ok (.sipush 154, 3) := by decide +kernel
theorem dX10_set_44 : decode cX10_set 44 = .ok (.iload_n 1, 1) := by decide +kernel
theorem dX10_set_45 : decode cX10_set 45 = .ok (.iadd, 1) := by decide +kernel
theorem dX10_set_46 : decode cX10_set 46 = .ok (.iload_n 2, 1) := by decide +kernel
theorem dX10_set_47 : decode cX10_set 47 = .ok (.iastore, 1) := by decide +kernel
theorem dX10_set_48 : decode cX10_set 48 = .ok (.iload_n 3, 1) := by decide +kernel
theorem dX10_set_49 : decode cX10_set 49 = .ok (.ireturn, 1) := by decide +kernel
theorem dX10_settles_0 : decode cX10_settles 0 = .ok (.iconst 0, 1) := by decide +kernel
theorem dX10_settles_1 : decode cX10_settles 1 = .ok (.istore_n 1, 1) := by decide +kernel
theorem dX10_settles_2 : decode cX10_settles 2 = .ok (.iload_n 1, 1) := by decide +kernel
theorem dX10_settles_3 : decode cX10_settles 3 = .ok (.iconst 4, 1) := by decide +kernel
theorem dX10_settles_4 : decode cX10_settles 4 = .ok (.if_icmp .ge 25, 3) := by decide +kernel
theorem dX10_settles_7 : decode cX10_settles 7 = .ok (.aload_n 0, 1) := by decide +kernel
theorem dX10_settles_8 : decode cX10_settles 8 = .ok (.getfield 42, 3) := by decide +kernel
theorem dX10_settles_11 : decode cX10_settles 11 = .ok (.iload_n 1, 1) := by decide +kernel
theorem dX10_settles_12 : decode cX10_settles 12 = .ok (.aload_n 0, 1) := by decide +kernel
theorem dX10_settles_13 : decode cX10_settles 13 = .ok (.getfield 7, 3) := by decide +kernel
theorem dX10_settles_16 : decode cX10_settles 16 = .ok (.sipush 154, 3) := by decide +kernel
theorem dX10_settles_19 : decode cX10_settles 19 = .ok (.iload_n 1, 1) := by decide +kernel
theorem dX10_settles_20 : decode cX10_settles 20 = .ok (.iadd, 1) := by decide +kernel
theorem dX10_settles_21 : decode cX10_settles 21 = .ok (.iaload, 1) := by decide +kernel
theorem dX10_settles_22 : decode cX10_settles 22 = .ok (.iastore, 1) := by decide +kernel
theorem dX10_settles_23 : decode cX10_settles 23 = .ok (.iinc 1 1, 3) := by decide +kernel
theorem dX10_settles_26 : decode cX10_settles 26 = .ok (.goto (-24), 3) := by decide +kernel
theorem dX10_settles_29 : decode cX10_settles 29 = .ok (.iconst 0, 1) := by decide +kernel
theorem dX10_settles_30 : decode cX10_settles 30 = .ok (.istore_n 1, 1) := by decide +kernel
theorem dX10_settles_31 : decode cX10_settles 31 = .ok (.iload_n 1, 1) := by decide +kernel
theorem dX10_settles_32 : decode cX10_settles 32 = .ok (.bipush 99, 2) := by decide +kernel
theorem dX10_settles_34 : decode cX10_settles 34 = .ok (.if_icmp .gt 76, 3) := by decide +kernel
theorem dX10_settles_37 : decode cX10_settles 37 = .ok (.iconst 1, 1) := by decide +kernel
theorem dX10_settles_38 : decode cX10_settles 38 = .ok (.istore_n 2, 1) := by decide +kernel
theorem dX10_settles_39 : decode cX10_settles 39 = .ok (.iconst 0, 1) := by decide +kernel
theorem dX10_settles_40 : decode cX10_settles 40 = .ok (.istore_n 3, 1) := by decide +kernel
theorem dX10_settles_41 : decode cX10_settles 41 = .ok (.iload_n 3, 1) := by decide +kernel
theorem dX10_settles_42 : decode cX10_settles 42 = .ok (.iconst 4, 1) := by decide +kernel
theorem dX10_settles_43 : decode cX10_settles 43 = .ok (.if_icmp .ge 55, 3) := by decide +kernel
theorem dX10_settles_46 : decode cX10_settles 46 = .ok (.aload_n 0, 1) := by decide +kernel
theorem dX10_settles_47 : decode cX10_settles 47 = .ok (.getfield 42, 3) := by decide +kernel
theorem dX10_settles_50 : decode cX10_settles 50 = .ok (.iload_n 3, 1) := by decide +kernel
theorem dX10_settles_51 : decode cX10_settles 51 = .ok (.iaload, 1) := by decide +kernel
theorem dX10_settles_52 : decode cX10_settles 52 = .ok (.aload_n 0, 1) := by decide +kernel
theorem dX10_settles_53 : decode cX10_settles 53 = .ok (.iload_n 3, 1) := by decide +kernel
theorem dX10_settles_54 : decode cX10_settles 54 = .ok (.invokevirtual 183, 3) := by decide +kernel
theorem dX10_settles_57 : decode cX10_settles 57 = .ok (.iadd, 1) := by decide +kernel
theorem dX10_settles_58 : decode cX10_settles 58 = .ok (.invokestatic 186, 3) := by decide +kernel
theorem dX10_settles_61 : decode cX10_settles 61 = .ok (.istore 4, 2) := by decide +kernel
theorem dX10_settles_63 : decode cX10_settles 63 = .ok (.iload_n 2, 1) := by decide +kernel
theorem dX10_settles_64 : decode cX10_settles 64 = .ok (.ifCond .eq 18, 3) := by decide +kernel
theorem dX10_settles_67 : decode cX10_settles 67 = .ok (.iload 4, 2) := by decide +kernel
theorem dX10_settles_69 : decode cX10_settles 69 = .ok (.aload_n 0, 1) := by decide +kernel
theorem dX10_settles_70 : decode cX10_settles 70 = .ok (.getfield 42, 3) := by decide +kernel
theorem dX10_settles_73 : decode cX10_settles 73 = .ok (.iload_n 3, 1) := by decide +kernel
theorem dX10_settles_74 : decode cX10_settles 74 = .ok (.iaload, 1) := by decide +kernel
theorem dX10_settles_75 : decode cX10_settles 75 = .ok (.if_icmp .ne 7, 3) := by decide +kernel
theorem dX10_settles_78 : decode cX10_settles 78 = .ok (.iconst 1, 1) := by decide +kernel
theorem dX10_settles_79 : decode cX10_settles 79 = .ok (.goto 4, 3) := by decide +kernel
theorem dX10_settles_82 : decode cX10_settles 82 = .ok (.iconst 0, 1) := by decide +kernel
theorem dX10_settles_83 : decode cX10_settles 83 = .ok (.istore_n 2, 1) := by decide +kernel
theorem dX10_settles_84 : decode cX10_settles 84 = .ok (.aload_n 0, 1) := by decide +kernel
theorem dX10_settles_85 : decode cX10_settles 85 = .ok (.getfield 42, 3) := by decide +kernel
theorem dX10_settles_88 : decode cX10_settles 88 = .ok (.iload_n 3, 1) := by decide +kernel
theorem dX10_settles_89 : decode cX10_settles 89 = .ok (.iload 4, 2) := by decide +kernel
theorem dX10_settles_91 : decode cX10_settles 91 = .ok (.iastore, 1) := by decide +kernel
theorem dX10_settles_92 : decode cX10_settles 92 = .ok (.iinc 3 1, 3) := by decide +kernel
theorem dX10_settles_95 : decode cX10_settles 95 = .ok (.goto (-54), 3) := by decide +kernel
theorem dX10_settles_98 : decode cX10_settles 98 = .ok (.iload_n 2, 1) := by decide +kernel
theorem dX10_settles_99 : decode cX10_settles 99 = .ok (.ifCond .eq 5, 3) := by decide +kernel
theorem dX10_settles_102 : decode cX10_settles 102 = .ok (.iload_n 1, 1) := by decide +kernel
theorem dX10_settles_103 : decode cX10_settles 103 = .ok (.ireturn, 1) := by decide +kernel
theorem dX10_settles_104 : decode cX10_settles 104 = .ok (.iinc 1 1, 3) := by decide +kernel
theorem dX10_settles_107 : decode cX10_settles 107 = .ok (.goto (-76), 3) := by decide +kernel
theorem dX10_settles_110 : decode cX10_settles 110 = .ok (.iconst (-1), 1) := by decide +kernel
theorem dX10_settles_111 : decode cX10_settles 111 = .ok (.ireturn, 1) := by decide +kernel
theorem dX10_told_0 : decode cX10_told 0 = .ok (.aload_n 0, 1) := by decide +kernel
theorem dX10_told_1 : decode cX10_told 1 = .ok (.iload_n 1, 1) := by decide +kernel
theorem dX10_told_2 : decode cX10_told 2 = .ok (.invokevirtual 122, 3) := by decide +kernel
theorem dX10_told_5 : decode cX10_told 5 = .ok (.ifCond .eq 24, 3) := by decide +kernel
theorem dX10_told_8 : decode cX10_told 8 = .ok (.aload_n 0, 1) := by decide +kernel
theorem dX10_told_9 : decode cX10_told 9 = .ok (.iload_n 2, 1) := by decide +kernel
theorem dX10_told_10 : decode cX10_told 10 = .ok (.invokevirtual 84, 3) := by decide +kernel
theorem dX10_told_13 : decode cX10_told 13 = .ok (.ifCond .eq 16, 3) := by decide +kernel
theorem dX10_told_16 : decode cX10_told 16 = .ok (.aload_n 0, 1) := by decide +kernel
theorem dX10_told_17 : decode cX10_told 17 = .ok (.iload_n 3, 1) := by decide +kernel
theorem dX10_told_18 : decode cX10_told 18 = .ok (.invokevirtual 84, 3) := by decide +kernel
theorem dX10_told_21 : decode cX10_told 21 = .ok (.ifCond .eq 8, 3) := by decide +kernel
theorem dX10_told_24 : decode cX10_told 24 = .ok (.iload_n 2, 1) := by decide +kernel
theorem dX10_told_25 : decode cX10_told 25 = .ok (.iload_n 3, 1) := by decide +kernel
theorem dX10_told_26 : decode cX10_told 26 = .ok (.if_icmp .ne 10, 3) := by decide +kernel
theorem dX10_told_29 : decode cX10_told 29 = .ok (.aload_n 0, 1) := by decide +kernel
theorem dX10_told_30 : decode cX10_told 30 = .ok (.bipush (-2), 2) := by decide +kernel
theorem dX10_told_32 : decode cX10_told 32 = .ok (.invokevirtual 80, 3) := by decide +kernel
theorem dX10_told_35 : decode cX10_told 35 = .ok (.ireturn, 1) := by decide +kernel
theorem dX10_told_36 : decode cX10_told 36 = .ok (.aload_n 0, 1) := by decide +kernel
theorem dX10_told_37 : decode cX10_told 37 = .ok (.getfield 7, 3) := by decide +kernel
theorem dX10_told_40 : decode cX10_told 40 = .ok (.sipush 160, 3) := by decide +kernel
theorem dX10_told_43 : decode cX10_told 43 = .ok (.iaload, 1) := by decide +kernel
theorem dX10_told_44 : decode cX10_told 44 = .ok (.istore 4, 2) := by decide +kernel
theorem dX10_told_46 : decode cX10_told 46 = .ok (.iload 4, 2) := by decide +kernel
theorem dX10_told_48 : decode cX10_told 48 = .ok (.bipush 12, 2) := by decide +kernel
theorem dX10_told_50 : decode cX10_told 50 = .ok (.if_icmp .ne 8, 3) := by decide +kernel
theorem dX10_told_53 : decode cX10_told 53 = .ok (.aload_n 0, 1) := by decide +kernel
theorem dX10_told_54 : decode cX10_told 54 = .ok (.invokevirtual 98, 3) := by decide +kernel
theorem dX10_told_57 : decode cX10_told 57 = .ok (.ireturn, 1) := by decide +kernel
theorem dX10_told_58 : decode cX10_told 58 = .ok (.aload_n 0, 1) := by decide +kernel
theorem dX10_told_59 : decode cX10_told 59 = .ok (.getfield 7, 3) := by decide +kernel
theorem dX10_told_62 : decode cX10_told 62 = .ok (.bipush 118, 2) := by decide +kernel
theorem dX10_told_64 : decode cX10_told 64 = .ok (.iconst 3, 1) := by decide +kernel
theorem dX10_told_65 : decode cX10_told 65 = .ok (.iload 4, 2) := by decide +kernel
theorem dX10_told_67 : decode cX10_told 67 = .ok (.imul, 1) := by decide +kernel
theorem dX10_told_68 : decode cX10_told 68 = .ok (.iadd, 1) := by decide +kernel
theorem dX10_told_69 : decode cX10_told 69 = .ok (.iload_n 1, 1) := by decide +kernel
theorem dX10_told_70 : decode cX10_told 70 = .ok (.iastore, 1) := by decide +kernel
theorem dX10_told_71 : decode cX10_told 71 = .ok (.aload_n 0, 1) := by decide +kernel
theorem dX10_told_72 : decode cX10_told 72 = .ok (.getfield 7, 3) := by decide +kernel
theorem dX10_told_75 : decode cX10_told 75 = .ok (.bipush 118, 2) := by decide +kernel
theorem dX10_told_77 : decode cX10_told 77 = .ok (.iconst 3, 1) := by decide +kernel
theorem dX10_told_78 : decode cX10_told 78 = .ok (.iload 4, 2) := by decide +kernel
theorem dX10_told_80 : decode cX10_told 80 = .ok (.imul, 1) := by decide +kernel
theorem dX10_told_81 : decode cX10_told 81 = .ok (.iadd, 1) := by decide +kernel
theorem dX10_told_82 : decode cX10_told 82 = .ok (.iconst 1, 1) := by decide +kernel
theorem dX10_told_83 : decode cX10_told 83 = .ok (.iadd, 1) := by decide +kernel
theorem dX10_told_84 : decode cX10_told 84 = .ok (.iload_n 2, 1) := by decide +kernel
theorem dX10_told_85 : decode cX10_told 85 = .ok (.iastore, 1) := by decide +kernel
theorem dX10_told_86 : decode cX10_told 86 = .ok (.aload_n 0, 1) := by decide +kernel
theorem dX10_told_87 : decode cX10_told 87 = .ok (.getfield 7, 3) := by decide +kernel
theorem dX10_told_90 : decode cX10_told 90 = .ok (.bipush 118, 2) := by decide +kernel
theorem dX10_told_92 : decode cX10_told 92 = .ok (.iconst 3, 1) := by decide +kernel
theorem dX10_told_93 : decode cX10_told 93 = .ok (.iload 4, 2) := by decide +kernel
theorem dX10_told_95 : decode cX10_told 95 = .ok (.imul, 1) := by decide +kernel
theorem dX10_told_96 : decode cX10_told 96 = .ok (.iadd, 1) := by decide +kernel
theorem dX10_told_97 : decode cX10_told 97 = .ok (.iconst 2, 1) := by decide +kernel
theorem dX10_told_98 : decode cX10_told 98 = .ok (.iadd, 1) := by decide +kernel
theorem dX10_told_99 : decode cX10_told 99 = .ok (.iload_n 3, 1) := by decide +kernel
theorem dX10_told_100 : decode cX10_told 100 = .ok (.iastore, 1) := by decide +kernel
theorem dX10_told_101 : decode cX10_told 101 = .ok (.aload_n 0, 1) := by decide +kernel
theorem dX10_told_102 : decode cX10_told 102 = .ok (.getfield 7, 3) := by decide +kernel
theorem dX10_told_105 : decode cX10_told 105 = .ok (.sipush 160, 3) := by decide +kernel
theorem dX10_told_108 : decode cX10_told 108 = .ok (.dup2, 1) := by decide +kernel
theorem dX10_told_109 : decode cX10_told 109 = .ok (.iaload, 1) := by decide +kernel
theorem dX10_told_110 : decode cX10_told 110 = .ok (.iconst 1, 1) := by decide +kernel
theorem dX10_told_111 : decode cX10_told 111 = .ok (.iadd, 1) := by decide +kernel
theorem dX10_told_112 : decode cX10_told 112 = .ok (.iastore, 1) := by decide +kernel
theorem dX10_told_113 : decode cX10_told 113 = .ok (.iload 4, 2) := by decide +kernel
theorem dX10_told_115 : decode cX10_told 115 = .ok (.ireturn, 1) := by decide +kernel
theorem dX10_forged_0 : decode cX10_forged 0 = .ok (.iconst 0, 1) := by decide +kernel
theorem dX10_forged_1 : decode cX10_forged 1 = .ok (.istore_n 1, 1) := by decide +kernel
theorem dX10_forged_2 : decode cX10_forged 2 = .ok (.iload_n 1, 1) := by decide +kernel
theorem dX10_forged_3 : decode cX10_forged 3 = .ok (.aload_n 0, 1) := by decide +kernel
theorem dX10_forged_4 : decode cX10_forged 4 = .ok (.getfield 7, 3) := by decide +kernel
theorem dX10_forged_7 : decode cX10_forged 7 = .ok (.sipush 158, 3) := by decide +kernel
theorem dX10_forged_10 : decode cX10_forged 10 = .ok (.iaload, 1) := by decide +kernel
theorem dX10_forged_11 : decode cX10_forged 11 = .ok (.if_icmp .ge 21, 3) := by decide +kernel
theorem dX10_forged_14 : decode cX10_forged 14 = .ok (.aload_n 0, 1) := by decide +kernel
theorem dX10_forged_15 : decode cX10_forged 15 = .ok (.getfield 45, 3) := by decide +kernel
theorem dX10_forged_18 : decode cX10_forged 18 = .ok (.iload_n 1, 1) := by decide +kernel
theorem dX10_forged_19 : decode cX10_forged 19 = .ok (.aload_n 0, 1) := by decide +kernel
theorem dX10_forged_20 : decode cX10_forged 20 = .ok (.iload_n 1, 1) := by decide +kernel
theorem dX10_forged_21 : decode cX10_forged 21 = .ok (.iconst 2, 1) := by decide +kernel
theorem dX10_forged_22 : decode cX10_forged 22 = .ok (.invokevirtual 112, 3) := by decide +kernel
theorem dX10_forged_25 : decode cX10_forged 25 = .ok (.iastore, 1) := by decide +kernel
theorem dX10_forged_26 : decode cX10_forged 26 = .ok (.iinc 1 1, 3) := by decide +kernel
theorem dX10_forged_29 : decode cX10_forged 29 = .ok (.goto (-27), 3) := by decide +kernel
theorem dX10_forged_32 : decode cX10_forged 32 = .ok (.iconst 0, 1) := by decide +kernel
theorem dX10_forged_33 : decode cX10_forged 33 = .ok (.istore_n 1, 1) := by decide +kernel
theorem dX10_forged_34 : decode cX10_forged 34 = .ok (.iload_n 1, 1) := by decide +kernel
theorem dX10_forged_35 : decode cX10_forged 35 = .ok (.aload_n 0, 1) := by decide +kernel
theorem dX10_forged_36 : decode cX10_forged 36 = .ok (.getfield 7, 3) := by decide +kernel
theorem dX10_forged_39 : decode cX10_forged 39 = .ok (.sipush 160, 3) := by decide +kernel
theorem dX10_forged_42 : decode cX10_forged 42 = .ok (.iaload, 1) := by decide +kernel
theorem dX10_forged_43 : decode cX10_forged 43 = .ok (.if_icmp .ge 92, 3) := by decide +kernel
theorem dX10_forged_46 : decode cX10_forged 46 = .ok (.aload_n 0, 1) := by decide +kernel
theorem dX10_forged_47 : decode cX10_forged 47 = .ok (.getfield 7, 3) := by decide +kernel
theorem dX10_forged_50 : decode cX10_forged 50 = .ok (.bipush 118, 2) := by decide +kernel
theorem dX10_forged_52 : decode cX10_forged 52 = .ok (.iconst 3, 1) := by decide +kernel
theorem dX10_forged_53 : decode cX10_forged 53 = .ok (.iload_n 1, 1) := by decide +kernel
theorem dX10_forged_54 : decode cX10_forged 54 = .ok (.imul, 1) := by decide +kernel
theorem dX10_forged_55 : decode cX10_forged 55 = .ok (.iadd, 1) := by decide +kernel
theorem dX10_forged_56 : decode cX10_forged 56 = .ok (.iaload, 1) := by decide +kernel
theorem dX10_forged_57 : decode cX10_forged 57 = .ok (.istore_n 2, 1) := by decide +kernel
theorem dX10_forged_58 : decode cX10_forged 58 = .ok (.iload_n 2, 1) := by decide +kernel
theorem dX10_forged_59 : decode cX10_forged 59 = .ok (.aload_n 0, 1) := by decide +kernel
theorem dX10_forged_60 : decode cX10_forged 60 = .ok (.getfield 7, 3) := by decide +kernel
theorem dX10_forged_63 : decode cX10_forged 63 = .ok (.sipush 158, 3) := by decide +kernel
theorem dX10_forged_66 : decode cX10_forged 66 = .ok (.iaload, 1) := by decide +kernel
theorem dX10_forged_67 : decode cX10_forged 67 = .ok (.if_icmp .ge 25, 3) := by decide +kernel
theorem dX10_forged_70 : decode cX10_forged 70 = .ok (.aload_n 0, 1) := by decide +kernel
theorem dX10_forged_71 : decode cX10_forged 71 = .ok (.getfield 45, 3) := by decide +kernel
theorem dX10_forged_74 : decode cX10_forged 74 = .ok (.iload_n 2, 1) := by decide +kernel
theorem dX10_forged_75 : decode cX10_forged 75 = .ok (.iaload, 1) := by decide +kernel
theorem dX10_forged_76 : decode cX10_forged 76 = .ok (.aload_n 0, 1) := by decide +kernel
theorem dX10_forged_77 : decode cX10_forged 77 = .ok (.getfield 7, 3) := by decide +kernel
theorem dX10_forged_80 : decode cX10_forged 80 = .ok (.bipush 118, 2) := by decide +kernel
theorem dX10_forged_82 : decode cX10_forged 82 = .ok (.iconst 3, 1) := by decide +kernel
theorem dX10_forged_83 : decode cX10_forged 83 = .ok (.iload_n 1, 1) := by decide +kernel
theorem dX10_forged_84 : decode cX10_forged 84 = .ok (.imul, 1) := by decide +kernel
theorem dX10_forged_85 : decode cX10_forged 85 = .ok (.iadd, 1) := by decide +kernel
theorem dX10_forged_86 : decode cX10_forged 86 = .ok (.iconst 1, 1) := by decide +kernel
theorem dX10_forged_87 : decode cX10_forged 87 = .ok (.iadd, 1) := by decide +kernel
theorem dX10_forged_88 : decode cX10_forged 88 = .ok (.iaload, 1) := by decide +kernel
theorem dX10_forged_89 : decode cX10_forged 89 = .ok (.if_icmp .eq 5, 3) := by decide +kernel
theorem dX10_forged_92 : decode cX10_forged 92 = .ok (.iload_n 1, 1) := by decide +kernel
theorem dX10_forged_93 : decode cX10_forged 93 = .ok (.ireturn, 1) := by decide +kernel
theorem dX10_forged_94 : decode cX10_forged 94 = .ok (.aload_n 0, 1) := by decide +kernel
theorem dX10_forged_95 : decode cX10_forged 95 = .ok (.getfield 7, 3) := by decide +kernel
theorem dX10_forged_98 : decode cX10_forged 98 = .ok (.bipush 118, 2) := by decide +kernel
theorem dX10_forged_100 : decode cX10_forged 100 = .ok (.iconst 3, 1) := by decide +kernel
theorem dX10_forged_101 : decode cX10_forged 101 = .ok (.iload_n 1, 1) := by decide +kernel
theorem dX10_forged_102 : decode cX10_forged 102 = .ok (.imul, 1) := by decide +kernel
theorem dX10_forged_103 : decode cX10_forged 103 = .ok (.iadd, 1) := by decide +kernel
theorem dX10_forged_104 : decode cX10_forged 104 = .ok (.iconst 2, 1) := by decide +kernel
theorem dX10_forged_105 : decode cX10_forged 105 = .ok (.iadd, 1) := by decide +kernel
theorem dX10_forged_106 : decode cX10_forged 106 = .ok (.iaload, 1) := by decide +kernel
theorem dX10_forged_107 : decode cX10_forged 107 = .ok (.istore_n 3, 1) := by decide +kernel
theorem dX10_forged_108 : decode cX10_forged 108 = .ok (.aload_n 0, 1) := by decide +kernel
theorem dX10_forged_109 : decode cX10_forged 109 = .ok (.getfield 45, 3) := by decide +kernel
theorem dX10_forged_112 : decode cX10_forged 112 = .ok (.iload_n 2, 1) := by decide +kernel
theorem dX10_forged_113 : decode cX10_forged 113 = .ok (.iload_n 3, 1) := by decide +kernel
theorem dX10_forged_114 : decode cX10_forged 114 = .ok (.aload_n 0, 1) := by decide +kernel
theorem dX10_forged_115 : decode cX10_forged 115 = .ok (.iload_n 2, 1) := by decide +kernel
theorem dX10_forged_116 : decode cX10_forged 116 = .ok (.iconst 1, 1) := by decide +kernel
theorem dX10_forged_117 : decode cX10_forged 117 = .ok (.invokevirtual 112, 3) := by decide +kernel
theorem dX10_forged_120 : decode cX10_forged 120 = .ok (.if_icmp .ne 7, 3) := by decide +kernel
theorem dX10_forged_123 : decode cX10_forged 123 = .ok (.iconst (-1), 1) := by decide +kernel
theorem dX10_forged_124 : decode cX10_forged 124 = .ok (.goto 4, 3) := by decide +kernel
theorem dX10_forged_127 : decode cX10_forged 127 = .ok (.iload_n 3, 1) := by decide +kernel
theorem dX10_forged_128 : decode cX10_forged 128 = .ok (.iastore, 1) := by decide +kernel
theorem dX10_forged_129 : decode cX10_forged 129 = .ok (.iinc 1 1, 3) := by decide +kernel
theorem dX10_forged_132 : decode cX10_forged 132 = .ok (.goto (-98), 3) := by decide +kernel
theorem dX10_forged_135 : decode cX10_forged 135 = .ok (.iconst (-1), 1) := by decide +kernel
theorem dX10_forged_136 : decode cX10_forged 136 = .ok (.ireturn, 1) := by decide +kernel
theorem dX10_forget_0 : decode cX10_forget 0 = .ok (.aload_n 0, 1) := by decide +kernel
theorem dX10_forget_1 : decode cX10_forget 1 = .ok (.getfield 7, 3) := by decide +kernel
theorem dX10_forget_4 : decode cX10_forget 4 = .ok (.sipush 160, 3) := by decide +kernel
theorem dX10_forget_7 : decode cX10_forget 7 = .ok (.iaload, 1) := by decide +kernel
theorem dX10_forget_8 : decode cX10_forget 8 = .ok (.istore_n 1, 1) := by decide +kernel
theorem dX10_forget_9 : decode cX10_forget 9 = .ok (.aload_n 0, 1) := by decide +kernel
theorem dX10_forget_10 : decode cX10_forget 10 = .ok (.getfield 7, 3) := by decide +kernel
theorem dX10_forget_13 : decode cX10_forget 13 = .ok (.sipush 160, 3) := by decide +kernel
theorem dX10_forget_16 : decode cX10_forget 16 = .ok (.iconst 0, 1) := by decide +kernel
theorem dX10_forget_17 : decode cX10_forget 17 = .ok (.iastore, 1) := by decide +kernel
theorem dX10_forget_18 : decode cX10_forget 18 = .ok (.iload_n 1, 1) := by decide +kernel
theorem dX10_forget_19 : decode cX10_forget 19 = .ok (.ireturn, 1) := by decide +kernel
theorem dX10_goesOff_0 : decode cX10_goesOff 0 = .ok (.iload_n 1, 1) := by decide +kernel
theorem dX10_goesOff_1 : decode cX10_goesOff 1 = .ok (.i2l, 1) := by decide +kernel
theorem dX10_goesOff_2 : decode cX10_goesOff 2 = .ok (.aload_n 0, 1) := by decide +kernel
theorem dX10_goesOff_3 : decode cX10_goesOff 3 = .ok (.invokevirtual 101, 3) := by decide +kernel
theorem dX10_goesOff_6 : decode cX10_goesOff 6 = .ok (.i2l, 1) := by decide +kernel
theorem dX10_goesOff_7 : decode cX10_goesOff 7 = .ok (.ldc2_w 72, 3) := by decide +kernel
theorem dX10_goesOff_10 : decode cX10_goesOff 10 = .ok (.invokestatic 68, 3) := by decide +kernel
theorem dX10_goesOff_13 : decode cX10_goesOff 13 = .ok (.ifCond .ne 10, 3) := by decide +kernel
theorem dX10_goesOff_16 : decode cX10_goesOff 16 = .ok (.aload_n 0, 1) := by decide +kernel
theorem dX10_goesOff_17 : decode cX10_goesOff 17 = .ok (.bipush (-2), 2) := by decide +kernel
theorem dX10_goesOff_19 : decode cX10_goesOff 19 = .ok (.invokevirtual 80, 3) := by decide +kernel
theorem dX10_goesOff_22 : decode cX10_goesOff 22 = .ok (.ireturn, 1) := by decide +kernel
theorem dX10_goesOff_23 : decode cX10_goesOff 23 = .ok (.iconst 0, 1) := by decide +kernel
theorem dX10_goesOff_24 : decode cX10_goesOff 24 = .ok (.istore_n 2, 1) := by decide +kernel
theorem dX10_goesOff_25 : decode cX10_goesOff 25 = .ok (.iconst 0, 1) := by decide +kernel
theorem dX10_goesOff_26 : decode cX10_goesOff 26 = .ok (.istore_n 3, 1) := by decide +kernel
theorem dX10_goesOff_27 : decode cX10_goesOff 27 = .ok (.iload_n 3, 1) := by decide +kernel
theorem dX10_goesOff_28 : decode cX10_goesOff 28 = .ok (.aload_n 0, 1) := by decide +kernel
theorem dX10_goesOff_29 : decode cX10_goesOff 29 = .ok (.getfield 7, 3) := by decide +kernel
theorem dX10_goesOff_32 : decode cX10_goesOff 32 = .ok (.sipush 158, 3) := by decide +kernel
theorem dX10_goesOff_35 : decode cX10_goesOff 35 = .ok (.iaload, 1) := by decide +kernel
theorem dX10_goesOff_36 : decode cX10_goesOff 36 = .ok (.if_icmp .ge 27, 3) := by decide +kernel
theorem dX10_goesOff_39 : decode cX10_goesOff 39 = .ok (.iload_n 2, 1) := by decide +kernel
theorem dX10_goesOff_40 : decode cX10_goesOff 40 = .ok (.aload_n 0, 1) := by decide +kernel
theorem dX10_goesOff_41 : decode cX10_goesOff 41 = .ok (.iload_n 3, 1) := by decide +kernel
theorem dX10_goesOff_42 : decode cX10_goesOff 42 = .ok (.invokevirtual 125, 3) := by decide +kernel
theorem dX10_goesOff_45 : decode cX10_goesOff 45 = .ok (.aload_n 0, 1) := by decide +kernel
theorem dX10_goesOff_46 : decode cX10_goesOff 46 = .ok (.iload_n 3, 1) := by decide +kernel
theorem dX10_goesOff_47 : decode cX10_goesOff 47 = .ok (.iload_n 1, 1) := by decide +kernel
theorem dX10_goesOff_48 : decode cX10_goesOff 48 = .ok (.invokevirtual 119, 3) := by decide +kernel
theorem dX10_goesOff_51 : decode cX10_goesOff 51 = .ok (.isub, 1) := by decide +kernel
theorem dX10_goesOff_52 : decode cX10_goesOff 52 = .ok (.invokestatic 116, 3) := by decide +kernel
theorem dX10_goesOff_55 : decode cX10_goesOff 55 = .ok (.iadd, 1) := by decide +kernel
theorem dX10_goesOff_56 : decode cX10_goesOff 56 = .ok (.istore_n 2, 1) := by decide +kernel
theorem dX10_goesOff_57 : decode cX10_goesOff 57 = .ok (.iinc 3 1, 3) := by decide +kernel
theorem dX10_goesOff_60 : decode cX10_goesOff 60 = .ok (.goto (-33), 3) := by decide +kernel
theorem dX10_goesOff_63 : decode cX10_goesOff 63 = .ok (.iload_n 2, 1) := by decide +kernel
theorem dX10_goesOff_64 : decode cX10_goesOff 64 = .ok (.ireturn, 1) := by decide +kernel
theorem dX10_kept_0 : decode cX10_kept 0 = .ok (.iload_n 1, 1) := by decide +kernel
theorem dX10_kept_1 : decode cX10_kept 1 = .ok (.i2l, 1) := by decide +kernel
theorem dX10_kept_2 : decode cX10_kept 2 = .ok (.lconst 0, 1) := by decide +kernel
theorem dX10_kept_3 : decode cX10_kept 3 = .ok (.ldc2_w 189, 3) := by decide +kernel
theorem dX10_kept_6 : decode cX10_kept 6 = .ok (.invokestatic 68, 3) := by decide +kernel
theorem dX10_kept_9 : decode cX10_kept 9 = .ok (.ifCond .eq 15, 3) := by decide +kernel
theorem dX10_kept_12 : decode cX10_kept 12 = .ok (.iload_n 2, 1) := by decide +kernel
theorem dX10_kept_13 : decode cX10_kept 13 = .ok (.i2l, 1) := by decide +kernel
theorem dX10_kept_14 : decode cX10_kept 14 = .ok (.lconst 0, 1) := by decide +kernel
theorem dX10_kept_15 : decode cX10_kept 15 = .ok (.ldc2_w 191, 3) := by decide +kernel
theorem dX10_kept_18 : decode cX10_kept 18 = .ok (.invokestatic 68, 3) := by decide +kernel
theorem dX10_kept_21 : decode cX10_kept 21 = .ok (.ifCond .ne 10, 3) := by decide +kernel
theorem dX10_kept_24 : decode cX10_kept 24 = .ok (.aload_n 0, 1) := by decide +kernel
theorem dX10_kept_25 : decode cX10_kept 25 = .ok (.bipush (-2), 2) := by decide +kernel
theorem dX10_kept_27 : decode cX10_kept 27 = .ok (.invokevirtual 80, 3) := by decide +kernel
theorem dX10_kept_30 : decode cX10_kept 30 = .ok (.ireturn, 1) := by decide +kernel
theorem dX10_kept_31 : decode cX10_kept 31 = .ok (.aload_n 0, 1) := by decide +kernel
theorem dX10_kept_32 : decode cX10_kept 32 = .ok (.invokevirtual 173, 3) := by decide +kernel
theorem dX10_kept_35 : decode cX10_kept 35 = .ok (.lconst 0, 1) := by decide +kernel
theorem dX10_kept_36 : decode cX10_kept 36 = .ok (.lstore_n 3, 1) := by decide +kernel
theorem dX10_kept_37 : decode cX10_kept 37 = .ok (.lconst 1, 1) := by decide +kernel
theorem dX10_kept_38 : decode cX10_kept 38 = .ok (.lstore 5, 2) := by decide +kernel
theorem dX10_kept_40 : decode cX10_kept 40 = .ok (.lconst 1, 1) := by decide +kernel
theorem dX10_kept_41 : decode cX10_kept 41 = .ok (.lstore 7, 2) := by decide +kernel
theorem dX10_kept_43 : decode cX10_kept 43 = .ok (.iconst 0, 1) := by decide +kernel
theorem dX10_kept_44 : decode cX10_kept 44 = .ok (.istore 9, 2) := by decide +kernel
theorem dX10_kept_46 : decode cX10_kept 46 = .ok (.iload 9, 2) := by decide +kernel
theorem dX10_kept_48 : decode cX10_kept 48 = .ok (.aload_n 0, 1) := by decide +kernel
theorem dX10_kept_49 : decode cX10_kept 49 = .ok (.getfield 161, 3) := by decide +kernel
theorem dX10_kept_52 : decode cX10_kept 52 = .ok (.if_icmp .gt 108, 3) := by decide +kernel
theorem dX10_kept_55 : decode cX10_kept 55 = .ok (.lload 7, 2) := by decide +kernel
theorem dX10_kept_57 : decode cX10_kept 57 = .ok (.lstore 10, 2) := by decide +kernel
theorem dX10_kept_59 : decode cX10_kept 59 = .ok (.iconst 0, 1) := by decide +kernel
theorem dX10_kept_60 : decode cX10_kept 60 = .ok (.istore 12, 2) := by decide +kernel
theorem dX10_kept_62 : decode cX10_kept 62 = .ok (.iload 12, 2) := by decide +kernel
theorem dX10_kept_64 : decode cX10_kept 64 = .ok (.aload_n 0, 1) := by decide +kernel
theorem dX10_kept_65 : decode cX10_kept 65 = .ok (.getfield 161, 3) := by decide +kernel
theorem dX10_kept_68 : decode cX10_kept 68 = .ok (.if_icmp .ge 31, 3) := by decide +kernel
theorem dX10_kept_71 : decode cX10_kept 71 = .ok (.lload 10, 2) := by decide +kernel
theorem dX10_kept_73 : decode cX10_kept 73 = .ok (.iload 12, 2) := by decide +kernel
theorem dX10_kept_75 : decode cX10_kept 75 = .ok (.iload 9, 2) := by decide +kernel
theorem dX10_kept_77 : decode cX10_kept 77 = .ok (.if_icmp .ge 8, 3) := by decide +kernel
theorem dX10_kept_80 : decode cX10_kept 80 = .ok (.iload_n 1, 1) := by decide +kernel
theorem dX10_kept_81 : decode cX10_kept 81 = .ok (.i2l, 1) := by decide +kernel
theorem dX10_kept_82 : decode cX10_kept 82 = .ok (.goto 8, 3) := by decide +kernel
theorem dX10_kept_85 : decode cX10_kept 85 = .ok (.bipush 10, 2) := by decide +kernel
theorem dX10_kept_87 : decode cX10_kept 87 = .ok (.iload_n 1, 1) := by decide +kernel
theorem dX10_kept_88 : decode cX10_kept 88 = .ok (.isub, 1) := by decide +kernel
theorem dX10_kept_89 : decode cX10_kept 89 = .ok (.i2l, 1) := by decide +kernel
theorem dX10_kept_90 : decode cX10_kept 90 = .ok (.lmul, 1) := by decide +kernel
theorem dX10_kept_91 : decode cX10_kept 91 = .ok (.lstore 10, 2) := by decide +kernel
theorem dX10_kept_93 : decode cX10_kept 93 = .ok (.iinc 12 1, 3) := by decide +kernel
theorem dX10_kept_96 : decode cX10_kept 96 = .ok (.goto (-34), 3) := by decide +kernel
theorem dX10_kept_99 : decode cX10_kept 99 = .ok (.lload_n 3, 1) := by decide +kernel
theorem dX10_kept_100 : decode cX10_kept 100 = .ok (.iload 9, 2) := by decide +kernel
theorem dX10_kept_102 : decode cX10_kept 102 = .ok (.iload_n 2, 1) := by decide +kernel
theorem dX10_kept_103 : decode cX10_kept 103 = .ok (.if_icmp .ge 7, 3) := by decide +kernel
theorem dX10_kept_106 : decode cX10_kept 106 = .ok (.lconst 0, 1) := by decide +kernel
theorem dX10_kept_107 : decode cX10_kept 107 = .ok (.goto 5, 3) := by decide +kernel
theorem dX10_kept_110 : decode cX10_kept 110 = .ok (.lload 10, 2) := by decide +kernel
theorem dX10_kept_112 : decode cX10_kept 112 = .ok (.ladd, 1) := by decide +kernel
theorem dX10_kept_113 : decode cX10_kept 113 = .ok (.lstore_n 3, 1) := by decide +kernel
theorem dX10_kept_114 : decode cX10_kept 114 = .ok (.lload 7, 2) := by decide +kernel
theorem dX10_kept_116 : decode cX10_kept 116 = .ok (.aload_n 0, 1) := by decide +kernel
theorem dX10_kept_117 : decode cX10_kept 117 = .ok (.getfield 161, 3) := by decide +kernel
theorem dX10_kept_120 : decode cX10_kept 120 = .ok (.iload 9, 2) := by decide +kernel
theorem dX10_kept_122 : decode cX10_kept 122 = .ok (.isub, 1) := by decide +kernel
theorem dX10_kept_123 : decode cX10_kept 123 = .ok (.i2l, 1) := by decide +kernel
theorem dX10_kept_124 : decode cX10_kept 124 = .ok (.lmul, 1) := by decide +kernel
theorem dX10_kept_125 : decode cX10_kept 125 = .ok (.iload 9, 2) := by decide +kernel
theorem dX10_kept_127 : decode cX10_kept 127 = .ok (.iconst 1, 1) := by decide +kernel
theorem dX10_kept_128 : decode cX10_kept 128 = .ok (.iadd, 1) := by decide +kernel
theorem dX10_kept_129 : decode cX10_kept 129 = .ok (.i2l, 1) := by decide +kernel
theorem dX10_kept_130 : decode cX10_kept 130 = .ok (.ldiv, 1) := by decide +kernel
theorem dX10_kept_131 : decode cX10_kept 131 = .ok (.lstore 7, 2) := by decide +kernel
theorem dX10_kept_133 : decode cX10_kept 133 = .ok (.lload 5, 2) := by decide +kernel
theorem dX10_kept_135 : decode cX10_kept 135 = .ok (.iload 9, 2) := by decide +kernel
theorem dX10_kept_137 : decode cX10_kept 137 = .ok (.aload_n 0, 1) := by decide +kernel
theorem dX10_kept_138 : decode cX10_kept 138 = .ok (.getfield 161, 3) := by decide +kernel
theorem dX10_kept_141 : decode cX10_kept 141 = .ok (.if_icmp .ge 9, 3) := by decide +kernel
theorem dX10_kept_144 : decode cX10_kept 144 = .ok (.ldc2_w 189, 3) := by decide +kernel
theorem dX10_kept_147 : decode cX10_kept 147 = .ok (.goto 4, 3) := by decide +kernel
theorem dX10_kept_150 : decode cX10_kept 150 = .ok (.lconst 1, 1) := by decide +kernel
theorem dX10_kept_151 : decode cX10_kept 151 = .ok (.lmul, 1) := by decide +kernel
theorem dX10_kept_152 : decode cX10_kept 152 = .ok (.lstore 5, 2) := by decide +kernel
theorem dX10_kept_154 : decode cX10_kept 154 = .ok (.iinc 9 1, 3) := by decide +kernel
theorem dX10_kept_157 : decode cX10_kept 157 = .ok (.goto (-111), 3) := by decide +kernel
theorem dX10_kept_160 : decode cX10_kept 160 = .ok (.aload_n 0, 1) := by decide +kernel
theorem dX10_kept_161 : decode cX10_kept 161 = .ok (.lload_n 3, 1) := by decide +kernel
theorem dX10_kept_162 : decode cX10_kept 162 = .ok (.lload 5, 2) := by decide +kernel
theorem dX10_kept_164 : decode cX10_kept 164 = .ok (.invokevirtual 193, 3) := by decide +kernel
theorem dX10_kept_167 : decode cX10_kept 167 = .ok (.ireturn, 1) := by decide +kernel
theorem dX10_type_0 : decode cX10_type 0 = .ok (.iload_n 3, 1) := by decide +kernel
theorem dX10_type_1 : decode cX10_type 1 = .ok (.i2l, 1) := by decide +kernel
theorem dX10_type_2 : decode cX10_type 2 = .ok (.lconst 1, 1) := by decide +kernel
theorem dX10_type_3 : decode cX10_type 3 = .ok (.ldc2_w 197, 3) := by decide +kernel
theorem dX10_type_6 : decode cX10_type 6 = .ok (.invokestatic 68, 3) := by decide +kernel
theorem dX10_type_9 : decode cX10_type 9 = .ok (.ifCond .ne 10, 3) := by decide +kernel
theorem dX10_type_12 : decode cX10_type 12 = .ok (.aload_n 0, 1) := by decide +kernel
theorem dX10_type_13 : decode cX10_type 13 = .ok (.bipush (-2), 2) := by decide +kernel
theorem dX10_type_15 : decode cX10_type 15 = .ok (.invokevirtual 80, 3) := by decide +kernel
theorem dX10_type_18 : decode cX10_type 18 = .ok (.ireturn, 1) := by decide +kernel
theorem dX10_type_19 : decode cX10_type 19 = .ok (.aload_n 0, 1) := by decide +kernel
theorem dX10_type_20 : decode cX10_type 20 = .ok (.getfield 199, 3) := by decide +kernel
theorem dX10_type_23 : decode cX10_type 23 = .ok (.iload_n 3, 1) := by decide +kernel
theorem dX10_type_24 : decode cX10_type 24 = .ok (.iadd, 1) := by decide +kernel
theorem dX10_type_25 : decode cX10_type 25 = .ok (.sipush 250, 3) := by decide +kernel
theorem dX10_type_28 : decode cX10_type 28 = .ok (.if_icmp .le 8, 3) := by decide +kernel
theorem dX10_type_31 : decode cX10_type 31 = .ok (.aload_n 0, 1) := by decide +kernel
theorem dX10_type_32 : decode cX10_type 32 = .ok (.invokevirtual 98, 3) := by decide +kernel
theorem dX10_type_35 : decode cX10_type 35 = .ok (.ireturn, 1) := by decide +kernel
theorem dX10_type_36 : decode cX10_type 36 = .ok (.iload_n 3, 1) := by decide +kernel
theorem dX10_type_37 : decode cX10_type 37 = .ok (.iconst 1, 1) := by decide +kernel
theorem dX10_type_38 : decode cX10_type 38 = .ok (.isub, 1) := by decide +kernel
theorem dX10_type_39 : decode cX10_type 39 = .ok (.istore 4, 2) := by decide +kernel
theorem dX10_type_41 : decode cX10_type 41 = .ok (.iload 4, 2) := by decide +kernel
theorem dX10_type_43 : decode cX10_type 43 = .ok (.ifCond .lt 40, 3) := by decide +kernel
theorem dX10_type_46 : decode cX10_type 46 = .ok (.aload_n 0, 1) := by decide +kernel
theorem dX10_type_47 : decode cX10_type 47 = .ok (.getfield 48, 3) := by decide +kernel
theorem dX10_type_50 : decode cX10_type 50 = .ok (.aload_n 0, 1) := by decide +kernel
theorem dX10_type_51 : decode cX10_type 51 = .ok (.getfield 199, 3) := by decide +kernel
theorem dX10_type_54 : decode cX10_type 54 = .ok (.lload_n 1, 1) := by decide +kernel
theorem dX10_type_55 : decode cX10_type 55 = .ok (.bipush 8, 2) := by decide +kernel
theorem dX10_type_57 : decode cX10_type 57 = .ok (.iload 4, 2) := by decide +kernel
theorem dX10_type_59 : decode cX10_type 59 = .ok (.imul, 1) := by decide +kernel
theorem dX10_type_60 : decode cX10_type 60 = .ok (.lushr, 1) := by decide +kernel
theorem dX10_type_61 : decode cX10_type 61 = .ok (.ldc2_w 202, 3) := by decide +kernel
theorem dX10_type_64 : decode cX10_type 64 = .ok (.land, 1) := by decide +kernel
theorem dX10_type_65 : decode cX10_type 65 = .ok (.l2i, 1) := by decide +kernel
theorem dX10_type_66 : decode cX10_type 66 = .ok (.iastore, 1) := by decide +kernel
theorem dX10_type_67 : decode cX10_type 67 = .ok (.aload_n 0, 1) := by decide +kernel
theorem dX10_type_68 : decode cX10_type 68 = .ok (.dup, 1) := by decide +kernel
theorem dX10_type_69 : decode cX10_type 69 = .ok (.getfield 199, 3) := by decide +kernel
theorem dX10_type_72 : decode cX10_type 72 = .ok (.iconst 1, 1) := by decide +kernel
theorem dX10_type_73 : decode cX10_type 73 = .ok (.iadd, 1) := by decide +kernel
theorem dX10_type_74 : decode cX10_type 74 = .ok (.putfield 199, 3) := by decide +kernel
theorem dX10_type_77 : decode cX10_type 77 = .ok (.iinc 4 (-1), 3) := by decide +kernel
theorem dX10_type_80 : decode cX10_type 80 = .ok (.goto (-39), 3) := by decide +kernel
theorem dX10_type_83 : decode cX10_type 83 = .ok (.aload_n 0, 1) := by decide +kernel
theorem dX10_type_84 : decode cX10_type 84 = .ok (.getfield 199, 3) := by decide +kernel
theorem dX10_type_87 : decode cX10_type 87 = .ok (.ireturn, 1) := by decide +kernel
theorem dX10_clear_0 : decode cX10_clear 0 = .ok (.aload_n 0, 1) := by decide +kernel
theorem dX10_clear_1 : decode cX10_clear 1 = .ok (.getfield 199, 3) := by decide +kernel
theorem dX10_clear_4 : decode cX10_clear 4 = .ok (.istore_n 1, 1) := by decide +kernel
theorem dX10_clear_5 : decode cX10_clear 5 = .ok (.aload_n 0, 1) := by decide +kernel
theorem dX10_clear_6 : decode cX10_clear 6 = .ok (.iconst 0, 1) := by decide +kernel
theorem dX10_clear_7 : decode cX10_clear 7 = .ok (.putfield 199, 3) := by decide +kernel
theorem dX10_clear_10 : decode cX10_clear 10 = .ok (.iload_n 1, 1) := by decide +kernel
theorem dX10_clear_11 : decode cX10_clear 11 = .ok (.ireturn, 1) := by decide +kernel
theorem dX10_isSmall_0 : decode cX10_isSmall 0 = .ok (.iload_n 0, 1) := by decide +kernel
theorem dX10_isSmall_1 : decode cX10_isSmall 1 = .ok (.i2l, 1) := by decide +kernel
theorem dX10_isSmall_2 : decode cX10_isSmall 2 = .ok (.ldc2_w 204, 3) := by decide +kernel
theorem dX10_isSmall_5 : decode cX10_isSmall 5 = .ok (.ldc2_w 206, 3) := by decide +kernel
theorem dX10_isSmall_8 : decode cX10_isSmall 8 = .ok (.invokestatic 68, 3) := by decide +kernel
theorem dX10_isSmall_11 : decode cX10_isSmall 11 = .ok (.ireturn, 1) := by decide +kernel
theorem dX10_isFigure_0 : decode cX10_isFigure 0 = .ok (.iload_n 0, 1) := by decide +kernel
theorem dX10_isFigure_1 : decode cX10_isFigure 1 = .ok (.i2l, 1) := by decide +kernel
theorem dX10_isFigure_2 : decode cX10_isFigure 2 = .ok (.ldc2_w 208, 3) := by decide +kernel
theorem dX10_isFigure_5 : decode cX10_isFigure 5 = .ok (.ldc2_w 210, 3) := by decide +kernel
theorem dX10_isFigure_8 : decode cX10_isFigure 8 = .ok (.invokestatic 68, 3) := by decide +kernel
theorem dX10_isFigure_11 : decode cX10_isFigure 11 = .ok (.ireturn, 1) := by decide +kernel
theorem dX10_lookAt_0 : decode cX10_lookAt 0 = .ok (.aload_n 0, 1) := by decide +kernel
theorem dX10_lookAt_1 : decode cX10_lookAt 1 = .ok (.iload_n 1, 1) := by decide +kernel
theorem dX10_lookAt_2 : decode cX10_lookAt 2 = .ok (.putfield 212, 3) := by decide +kernel
theorem dX10_lookAt_5 : decode cX10_lookAt 5 = .ok (.aload_n 0, 1) := by decide +kernel
theorem dX10_lookAt_6 : decode cX10_lookAt 6 = .ok (.getfield 212, 3) := by decide +kernel
theorem dX10_lookAt_9 : decode cX10_lookAt 9 = .ok (.aload_n 0, 1) := by decide +kernel
theorem dX10_lookAt_10 : decode cX10_lookAt 10 = .ok (.getfield 199, 3) := by decide +kernel
theorem dX10_lookAt_13 : decode cX10_lookAt 13 = .ok (.if_icmp .ge 30, 3) := by decide +kernel
theorem dX10_lookAt_16 : decode cX10_lookAt 16 = .ok (.aload_n 0, 1) := by decide +kernel
theorem dX10_lookAt_17 : decode cX10_lookAt 17 = .ok (.getfield 48, 3) := by decide +kernel
theorem dX10_lookAt_20 : decode cX10_lookAt 20 = .ok (.aload_n 0, 1) := by decide +kernel
theorem dX10_lookAt_21 : decode cX10_lookAt 21 = .ok (.getfield 212, 3) := by decide +kernel
theorem dX10_lookAt_24 : decode cX10_lookAt 24 = .ok (.iaload, 1) := by decide +kernel
theorem dX10_lookAt_25 : decode cX10_lookAt 25 = .ok (.bipush 32, 2) := by decide +kernel
theorem dX10_lookAt_27 : decode cX10_lookAt 27 = .ok (.if_icmp .ne 16, 3) := by decide +kernel
theorem dX10_lookAt_30 : decode cX10_lookAt 30 = .ok (.aload_n 0, 1) := by decide +kernel
theorem dX10_lookAt_31 : decode cX10_lookAt 31 = .ok (.dup, 1) := by decide +kernel
theorem dX10_lookAt_32 : decode cX10_lookAt 32 = .ok (.getfield 212, 3) := by decide +kernel
theorem dX10_lookAt_35 : decode cX10_lookAt 35 = .ok (.iconst 1, 1) := by decide +kernel
theorem dX10_lookAt_36 : decode cX10_lookAt 36 = .ok (.iadd, 1) := by decide +kernel
theorem dX10_lookAt_37 : decode cX10_lookAt 37 = .ok (.putfield 212, 3) := by decide +kernel
theorem dX10_lookAt_40 : decode cX10_lookAt 40 = .ok (.goto (-35), 3) := by decide +kernel
theorem dX10_lookAt_43 : decode cX10_lookAt 43 = .ok (.aload_n 0, 1) := by decide +kernel
theorem dX10_lookAt_44 : decode cX10_lookAt 44 = .ok (.iconst 0, 1) := by decide +kernel
theorem dX10_lookAt_45 : decode cX10_lookAt 45 = .ok (.putfield 215, 3) := by decide +kernel
theorem dX10_lookAt_48 : decode cX10_lookAt 48 = .ok (.aload_n 0, 1) := by decide +kernel
theorem dX10_lookAt_49 : decode cX10_lookAt 49 = .ok (.iconst 0, 1) := by decide +kernel
theorem dX10_lookAt_50 : decode cX10_lookAt 50 = .ok (.putfield 218, 3) := by decide +kernel
theorem dX10_lookAt_53 : decode cX10_lookAt 53 = .ok (.aload_n 0, 1) := by decide +kernel
theorem dX10_lookAt_54 : decode cX10_lookAt 54 = .ok (.iconst 0, 1) := by decide +kernel
theorem dX10_lookAt_55 : decode cX10_lookAt 55 = .ok (.putfield 221, 3) := by decide +kernel
theorem dX10_lookAt_58 : decode cX10_lookAt 58 = .ok (.aload_n 0, 1) := by decide +kernel
theorem dX10_lookAt_59 : decode cX10_lookAt 59 = .ok (.getfield 212, 3) := by decide +kernel
theorem dX10_lookAt_62 : decode cX10_lookAt 62 = .ok (.aload_n 0, 1) := by decide +kernel
theorem dX10_lookAt_63 : decode cX10_lookAt 63 = .ok (.getfield 199, 3) := by decide +kernel
theorem dX10_lookAt_66 : decode cX10_lookAt 66 = .ok (.if_icmp .ne 4, 3) := by decide +kernel
theorem dX10_lookAt_69 : decode cX10_lookAt 69 = .ok (.return_, 1) := by decide +kernel
theorem dX10_lookAt_70 : decode cX10_lookAt 70 = .ok (.aload_n 0, 1) := by decide +kernel
theorem dX10_lookAt_71 : decode cX10_lookAt 71 = .ok (.getfield 48, 3) := by decide +kernel
theorem dX10_lookAt_74 : decode cX10_lookAt 74 = .ok (.aload_n 0, 1) := by decide +kernel
theorem dX10_lookAt_75 : decode cX10_lookAt 75 = .ok (.getfield 212, 3) := by decide +kernel
theorem dX10_lookAt_78 : decode cX10_lookAt 78 = .ok (.iaload, 1) := by decide +kernel
theorem dX10_lookAt_79 : decode cX10_lookAt 79 = .ok (.istore_n 2, 1) := by decide +kernel
theorem dX10_lookAt_80 : decode cX10_lookAt 80 = .ok (.aload_n 0, 1) := by decide +kernel
theorem dX10_lookAt_81 : decode cX10_lookAt 81 = .ok (.iload_n 2, 1) := by decide +kernel
theorem dX10_lookAt_82 : decode cX10_lookAt 82 = .ok (.invokestatic 224, 3) := by decide +kernel
theorem dX10_lookAt_85 : decode cX10_lookAt 85 = .ok (.ifCond .eq 7, 3) := by decide +kernel
theorem dX10_lookAt_88 : decode cX10_lookAt 88 = .ok (.iconst 1, 1) := by decide +kernel
theorem dX10_lookAt_89 : decode cX10_lookAt 89 = .ok (.goto 25, 3) := by decide +kernel
theorem dX10_lookAt_92 : decode cX10_lookAt 92 = .ok (.iload_n 2, 1) := by decide +kernel
theorem dX10_lookAt_93 : decode cX10_lookAt 93 = .ok (.invokestatic 227, 3) := by decide +kernel
theorem dX10_lookAt_96 : decode cX10_lookAt 96 = .ok (.ifCond .eq 7, 3) := by decide +kernel
theorem dX10_lookAt_99 : decode cX10_lookAt 99 = .ok (.iconst 2, 1) := by decide +kernel
theorem dX10_lookAt_100 : decode cX10_lookAt 100 = .ok (.goto 14, 3) := by decide +kernel
theorem dX10_lookAt_103 : decode cX10_lookAt 103 = .ok (.iload_n 2, 1) := by decide +kernel
theorem dX10_lookAt_104 : decode cX10_lookAt 104 = .ok (.bipush 59, 2) := by decide +kernel
theorem dX10_lookAt_106 : decode cX10_lookAt 106 = .ok (.if_icmp .ne 7, 3) := by decide +kernel
theorem dX10_lookAt_109 : decode cX10_lookAt 109 = .ok (.iconst 3, 1) := by decide +kernel
theorem dX10_lookAt_110 : decode cX10_lookAt 110 = .ok (.goto 4, 3) := by decide +kernel
theorem dX10_lookAt_113 : decode cX10_lookAt 113 = .ok (.iconst 4, 1) := by decide +kernel
theorem dX10_lookAt_114 : decode cX10_lookAt 114 = .ok (.putfield 218, 3) := by decide +kernel
theorem dX10_lookAt_117 : decode cX10_lookAt 117 = .ok (.aload_n 0, 1) := by decide +kernel
theorem dX10_lookAt_118 : decode cX10_lookAt 118 = .ok (.iconst 1, 1) := by decide +kernel
theorem dX10_lookAt_119 : decode cX10_lookAt 119 = .ok (.putfield 215, 3) := by decide +kernel
theorem dX10_lookAt_122 : decode cX10_lookAt 122 = .ok (.aload_n 0, 1) := by decide +kernel
theorem dX10_lookAt_123 : decode cX10_lookAt 123 = .ok (.getfield 218, 3) := by decide +kernel
theorem dX10_lookAt_126 : decode cX10_lookAt 126 = .ok (.iconst 3, 1) := by decide +kernel
theorem dX10_lookAt_127 : decode cX10_lookAt 127 = .ok (.if_icmp .ge 7, 3) := by decide +kernel
theorem dX10_lookAt_130 : decode cX10_lookAt 130 = .ok (.iconst 1, 1) := by decide +kernel
theorem dX10_lookAt_131 : decode cX10_lookAt 131 = .ok (.goto 4, 3) := by decide +kernel
theorem dX10_lookAt_134 : decode cX10_lookAt 134 = .ok (.iconst 0, 1) := by decide +kernel
theorem dX10_lookAt_135 : decode cX10_lookAt 135 = .ok (.istore_n 3, 1) := by decide +kernel
theorem dX10_lookAt_136 : decode cX10_lookAt 136 = .ok (.iload_n 3, 1) := by decide +kernel
theorem dX10_lookAt_137 : decode cX10_lookAt 137 = .ok (.ifCond .eq 78, 3) := by decide +kernel
theorem dX10_lookAt_140 : decode cX10_lookAt 140 = .ok (.aload_n 0, 1) := by decide +kernel
theorem dX10_lookAt_141 : decode cX10_lookAt 141 = .ok (.getfield 212, 3) := by decide +kernel
theorem dX10_lookAt_144 : decode cX10_lookAt 144 = .ok (.aload_n 0, 1) := by decide +kernel
theorem dX10_lookAt_145 : decode cX10_lookAt 145 = .ok (.getfield 215, 3) := by decide +kernel
theorem dX10_lookAt_148 : decode cX10_lookAt 148 = .ok (.iadd, 1) := by decide +kernel
theorem dX10_lookAt_149 : decode cX10_lookAt 149 = .ok (.aload_n 0, 1) := by decide +kernel
theorem dX10_lookAt_150 : decode cX10_lookAt 150 = .ok (.getfield 199, 3) := by decide +kernel
theorem dX10_lookAt_153 : decode cX10_lookAt 153 = .ok (.if_icmp .ge 62, 3) := by decide +kernel
theorem dX10_lookAt_156 : decode cX10_lookAt 156 = .ok (.aload_n 0, 1) := by decide +kernel
theorem dX10_lookAt_157 : decode cX10_lookAt 157 = .ok (.getfield 48, 3) := by decide +kernel
theorem dX10_lookAt_160 : decode cX10_lookAt 160 = .ok (.aload_n 0, 1) := by decide +kernel
theorem dX10_lookAt_161 : decode cX10_lookAt 161 = .ok (.getfield 212, 3) := by decide +kernel
theorem dX10_lookAt_164 : decode cX10_lookAt 164 = .ok (.aload_n 0, 1) := by decide +kernel
theorem dX10_lookAt_165 : decode cX10_lookAt 165 = .ok (.getfield 215, 3) := by decide +kernel
theorem dX10_lookAt_168 : decode cX10_lookAt 168 = .ok (.iadd, 1) := by decide +kernel
theorem dX10_lookAt_169 : decode cX10_lookAt 169 = .ok (.iaload, 1) := by decide +kernel
theorem dX10_lookAt_170 : decode cX10_lookAt 170 = .ok (.istore 4, 2) := by decide +kernel
theorem dX10_lookAt_172 : decode cX10_lookAt 172 = .ok (.aload_n 0, 1) := by decide +kernel
theorem dX10_lookAt_173 : decode cX10_lookAt 173 = .ok (.getfield 218, 3) := by decide +kernel
theorem dX10_lookAt_176 : decode cX10_lookAt 176 = .ok (.iconst 1, 1) := by decide +kernel
theorem dX10_lookAt_177 : decode cX10_lookAt 177 = .ok (.if_icmp .ne 11, 3) := by decide +kernel
theorem dX10_lookAt_180 : decode cX10_lookAt 180 = .ok (.iload 4, 2) := by decide +kernel
theorem dX10_lookAt_182 : decode cX10_lookAt 182 = .ok (.invokestatic 224, 3) := by decide +kernel
theorem dX10_lookAt_185 : decode cX10_lookAt 185 = .ok (.goto 8, 3) := by decide +kernel
theorem dX10_lookAt_188 : decode cX10_lookAt 188 = .ok (.iload 4, 2) := by decide +kernel
theorem dX10_lookAt_190 : decode cX10_lookAt 190 = .ok (.invokestatic 227, 3) := by decide +kernel
theorem dX10_lookAt_193 : decode cX10_lookAt 193 = .ok (.istore_n 3, 1) := by decide +kernel
theorem dX10_lookAt_194 : decode cX10_lookAt 194 = .ok (.aload_n 0, 1) := by decide +kernel
theorem dX10_lookAt_195 : decode cX10_lookAt 195 = .ok (.dup, 1) := by decide +kernel
theorem dX10_lookAt_196 : decode cX10_lookAt 196 = .ok (.getfield 215, 3) := by decide +kernel
theorem dX10_lookAt_199 : decode cX10_lookAt 199 = .ok (.iload_n 3, 1) := by decide +kernel
theorem dX10_lookAt_200 : decode cX10_lookAt 200 = .ok (.ifCond .eq 7, 3) := by decide +kernel
theorem dX10_lookAt_203 : decode cX10_lookAt 203 = .ok (.iconst 1, 1) := by decide +kernel
theorem dX10_lookAt_204 : decode cX10_lookAt 204 = .ok (.goto 4, 3) := by decide +kernel
theorem dX10_lookAt_207 : decode cX10_lookAt 207 = .ok (.iconst 0, 1) := by decide +kernel
theorem dX10_lookAt_208 : decode cX10_lookAt 208 = .ok (.iadd, 1) := by decide +kernel
theorem dX10_lookAt_209 : decode cX10_lookAt 209 = .ok (.putfield 215, 3) := by decide +kernel
theorem dX10_lookAt_212 : decode cX10_lookAt 212 = .ok (.goto (-76), 3) := by decide +kernel
theorem dX10_lookAt_215 : decode cX10_lookAt 215 = .ok (.iconst 0, 1) := by decide +kernel
theorem dX10_lookAt_216 : decode cX10_lookAt 216 = .ok (.istore 4, 2) := by decide +kernel
theorem dX10_lookAt_218 : decode cX10_lookAt 218 = .ok (.iload 4, 2) := by decide +kernel
theorem dX10_lookAt_220 : decode cX10_lookAt 220 = .ok (.aload_n 0, 1) := by decide +kernel
theorem dX10_lookAt_221 : decode cX10_lookAt 221 = .ok (.getfield 215, 3) := by decide +kernel
theorem dX10_lookAt_224 : decode cX10_lookAt 224 = .ok (.if_icmp .ge 50, 3) := by decide +kernel
theorem dX10_lookAt_227 : decode cX10_lookAt 227 = .ok (.iload 4, 2) := by decide +kernel
theorem dX10_lookAt_229 : decode cX10_lookAt 229 = .ok (.iconst 2, 1) := by decide +kernel
theorem dX10_lookAt_230 : decode cX10_lookAt 230 = .ok (.if_icmp .ge 44, 3) := by decide +kernel
theorem dX10_lookAt_233 : decode cX10_lookAt 233 = .ok (.aload_n 0, 1) := by decide +kernel
theorem dX10_lookAt_234 : decode cX10_lookAt 234 = .ok (.getfield 218, 3) := by decide +kernel
theorem dX10_lookAt_237 : decode cX10_lookAt 237 = .ok (.iconst 2, 1) := by decide +kernel
theorem dX10_lookAt_238 : decode cX10_lookAt 238 = .ok (.if_icmp .ne 36, 3) := by decide +kernel
theorem dX10_lookAt_241 : decode cX10_lookAt 241 = .ok (.aload_n 0, 1) := by decide +kernel
theorem dX10_lookAt_242 : decode cX10_lookAt 242 = .ok (.bipush 10, 2) := by decide +kernel
theorem dX10_lookAt_244 : decode cX10_lookAt 244 = .ok (.aload_n 0, 1) := by decide +kernel
theorem dX10_lookAt_245 : decode cX10_lookAt 245 = .ok (.getfield 221, 3) := by decide +kernel
theorem dX10_lookAt_248 : decode cX10_lookAt 248 = .ok (.imul, 1) := by decide +kernel
theorem dX10_lookAt_249 : decode cX10_lookAt 249 = .ok (.aload_n 0, 1) := by decide +kernel
theorem dX10_lookAt_250 : decode cX10_lookAt 250 = .ok (.getfield 48, 3) := by decide +kernel
theorem dX10_lookAt_253 : decode cX10_lookAt 253 = .ok (.aload_n 0, 1) := by decide +kernel
theorem dX10_lookAt_254 : decode cX10_lookAt 254 = .ok (.getfield 212, 3) := by decide +kernel
theorem dX10_lookAt_257 : decode cX10_lookAt 257 = .ok (.iload 4, 2) := by decide +kernel
theorem dX10_lookAt_259 : decode cX10_lookAt 259 = .ok (.iadd, 1) := by decide +kernel
theorem dX10_lookAt_260 : decode cX10_lookAt 260 = .ok (.iaload, 1) := by decide +kernel
theorem dX10_lookAt_261 : decode cX10_lookAt 261 = .ok (.iadd, 1) := by decide +kernel
theorem dX10_lookAt_262 : decode cX10_lookAt 262 = .ok (.bipush 48, 2) := by decide +kernel
theorem dX10_lookAt_264 : decode cX10_lookAt 264 = .ok (.isub, 1) := by decide +kernel
theorem dX10_lookAt_265 : decode cX10_lookAt 265 = .ok (.putfield 221, 3) := by decide +kernel
theorem dX10_lookAt_268 : decode cX10_lookAt 268 = .ok (.iinc 4 1, 3) := by decide +kernel
theorem dX10_lookAt_271 : decode cX10_lookAt 271 = .ok (.goto (-53), 3) := by decide +kernel
theorem dX10_lookAt_274 : decode cX10_lookAt 274 = .ok (.aload_n 0, 1) := by decide +kernel
theorem dX10_lookAt_275 : decode cX10_lookAt 275 = .ok (.aload_n 0, 1) := by decide +kernel
theorem dX10_lookAt_276 : decode cX10_lookAt 276 = .ok (.getfield 218, 3) := by decide +kernel
theorem dX10_lookAt_279 : decode cX10_lookAt 279 = .ok (.iconst 2, 1) := by decide +kernel
theorem dX10_lookAt_280 : decode cX10_lookAt 280 = .ok (.if_icmp .ne 15, 3) := by decide +kernel
theorem dX10_lookAt_283 : decode cX10_lookAt 283 = .ok (.aload_n 0, 1) := by decide +kernel
theorem dX10_lookAt_284 : decode cX10_lookAt 284 = .ok (.getfield 215, 3) := by decide +kernel
theorem dX10_lookAt_287 : decode cX10_lookAt 287 = .ok (.iconst 2, 1) := by decide +kernel
theorem dX10_lookAt_288 : decode cX10_lookAt 288 = .ok (.if_icmp .le 7, 3) := by decide +kernel
theorem dX10_lookAt_291 : decode cX10_lookAt 291 = .ok (.iconst 4, 1) := by decide +kernel
theorem dX10_lookAt_292 : decode cX10_lookAt 292 = .ok (.goto 7, 3) := by decide +kernel
theorem dX10_lookAt_295 : decode cX10_lookAt 295 = .ok (.aload_n 0, 1) := by decide +kernel
theorem dX10_lookAt_296 : decode cX10_lookAt 296 = .ok (.getfield 218, 3) := by decide +kernel
theorem dX10_lookAt_299 : decode cX10_lookAt 299 = .ok (.putfield 218, 3) := by decide +kernel
theorem dX10_lookAt_302 : decode cX10_lookAt 302 = .ok (.return_, 1) := by decide +kernel
theorem dX10_goOn_0 : decode cX10_goOn 0 = .ok (.aload_n 0, 1) := by decide +kernel
theorem dX10_goOn_1 : decode cX10_goOn 1 = .ok (.aload_n 0, 1) := by decide +kernel
theorem dX10_goOn_2 : decode cX10_goOn 2 = .ok (.getfield 212, 3) := by decide +kernel
theorem dX10_goOn_5 : decode cX10_goOn 5 = .ok (.aload_n 0, 1) := by decide +kernel
theorem dX10_goOn_6 : decode cX10_goOn 6 = .ok (.getfield 215, 3) := by decide +kernel
theorem dX10_goOn_9 : decode cX10_goOn 9 = .ok (.iadd, 1) := by decide +kernel
theorem dX10_goOn_10 : decode cX10_goOn 10 = .ok (.invokevirtual 230, 3) := by decide +kernel
theorem dX10_goOn_13 : decode cX10_goOn 13 = .ok (.return_, 1) := by decide +kernel
theorem dX10_isWord_0 : decode cX10_isWord 0 = .ok (.iload 5, 2) := by decide +kernel
theorem dX10_isWord_2 : decode cX10_isWord 2 = .ok (.ifCond .ne 7, 3) := by decide +kernel
theorem dX10_isWord_5 : decode cX10_isWord 5 = .ok (.iconst 4, 1) := by decide +kernel
theorem dX10_isWord_6 : decode cX10_isWord 6 = .ok (.goto 5, 3) := by decide +kernel
theorem dX10_isWord_9 : decode cX10_isWord 9 = .ok (.bipush 6, 2) := by decide +kernel
theorem dX10_isWord_11 : decode cX10_isWord 11 = .ok (.istore 7, 2) := by decide +kernel
theorem dX10_isWord_13 : decode cX10_isWord 13 = .ok (.aload_n 0, 1) := by decide +kernel
theorem dX10_isWord_14 : decode cX10_isWord 14 = .ok (.getfield 218, 3) := by decide +kernel
theorem dX10_isWord_17 : decode cX10_isWord 17 = .ok (.iconst 1, 1) := by decide +kernel
theorem dX10_isWord_18 : decode cX10_isWord 18 = .ok (.if_icmp .ne 16, 3) := by decide +kernel
theorem dX10_isWord_21 : decode cX10_isWord 21 = .ok (.aload_n 0, 1) := by decide +kernel
theorem dX10_isWord_22 : decode cX10_isWord 22 = .ok (.getfield 215, 3) := by decide +kernel
theorem dX10_isWord_25 : decode cX10_isWord 25 = .ok (.iload 7, 2) := by decide +kernel
theorem dX10_isWord_27 : decode cX10_isWord 27 = .ok (.if_icmp .ne 7, 3) := by decide +kernel
theorem dX10_isWord_30 : decode cX10_isWord 30 = .ok (.iconst 1, 1) := by decide +kernel
theorem dX10_isWord_31 : decode cX10_isWord 31 = .ok (.goto 4, 3) := by decide +kernel
theorem dX10_isWord_34 : decode cX10_isWord 34 = .ok (.iconst 0, 1) := by decide +kernel
theorem dX10_isWord_35 : decode cX10_isWord 35 = .ok (.istore 8, 2) := by decide +kernel
theorem dX10_isWord_37 : decode cX10_isWord 37 = .ok (.iconst 0, 1) := by decide +kernel
theorem dX10_isWord_38 : decode cX10_isWord 38 = .ok (.istore 9, 2) := by decide +kernel
theorem dX10_isWord_40 : decode cX10_isWord 40 = .ok (.iload 9, 2) := by decide +kernel
theorem dX10_isWord_42 : decode cX10_isWord 42 = .ok (.iload 7, 2) := by decide +kernel
theorem dX10_isWord_44 : decode cX10_isWord 44 = .ok (.if_icmp .ge 89, 3) := by decide +kernel
theorem dX10_isWord_47 : decode cX10_isWord 47 = .ok (.iload 8, 2) := by decide +kernel
theorem dX10_isWord_49 : decode cX10_isWord 49 = .ok (.ifCond .eq 84, 3) := by decide +kernel
theorem dX10_isWord_52 : decode cX10_isWord 52 = .ok (.aload_n 0, 1) := by decide +kernel
theorem dX10_isWord_53 : decode cX10_isWord 53 = .ok (.getfield 48, 3) := by decide +kernel
theorem dX10_isWord_56 : decode cX10_isWord 56 = .ok (.aload_n 0, 1) := by decide +kernel
theorem dX10_isWord_57 : decode cX10_isWord 57 = .ok (.getfield 212, 3) := by decide +kernel
theorem dX10_isWord_60 : decode cX10_isWord 60 = .ok (.iload 9, 2) := by decide +kernel
theorem dX10_isWord_62 : decode cX10_isWord 62 = .ok (.iadd, 1) := by decide +kernel
theorem dX10_isWord_63 : decode cX10_isWord 63 = .ok (.iaload, 1) := by decide +kernel
theorem dX10_isWord_64 : decode cX10_isWord 64 = .ok (.iload 9, 2) := by decide +kernel
theorem dX10_isWord_66 : decode cX10_isWord 66 = .ok (.ifCond .ne 7, 3) := by decide +kernel
theorem dX10_isWord_69 : decode cX10_isWord 69 = .ok (.iload_n 1, 1) := by decide +kernel
theorem dX10_isWord_70 : decode cX10_isWord 70 = .ok (.goto 47, 3) := by decide +kernel
theorem dX10_isWord_73 : decode cX10_isWord 73 = .ok (.iload 9, 2) := by decide +kernel
theorem dX10_isWord_75 : decode cX10_isWord 75 = .ok (.iconst 1, 1) := by decide +kernel
theorem dX10_isWord_76 : decode cX10_isWord 76 = .ok (.if_icmp .ne 7, 3) := by decide +kernel
theorem dX10_isWord_79 : decode cX10_isWord 79 = .ok (.iload_n 2, 1) := by decide +kernel
theorem dX10_isWord_80 : decode cX10_isWord 80 = .ok (.goto 37, 3) := by decide +kernel
theorem dX10_isWord_83 : decode cX10_isWord 83 = .ok (.iload 9, 2) := by decide +kernel
theorem dX10_isWord_85 : decode cX10_isWord 85 = .ok (.iconst 2, 1) := by decide +kernel
theorem dX10_isWord_86 : decode cX10_isWord 86 = .ok (.if_icmp .ne 7, 3) := by decide +kernel
theorem dX10_isWord_89 : decode cX10_isWord 89 = .ok (.iload_n 3, 1) := by decide +kernel
theorem dX10_isWord_90 : decode cX10_isWord 90 = .ok (.goto 27, 3) := by decide +kernel
theorem dX10_isWord_93 : decode cX10_isWord 93 = .ok (.iload 9, 2) := by decide +kernel
theorem dX10_isWord_95 : decode cX10_isWord 95 = .ok (.iconst 3, 1) := by decide +kernel
theorem dX10_isWord_96 : decode cX10_isWord 96 = .ok (.if_icmp .ne 8, 3) := by decide +kernel
theorem dX10_isWord_99 : decode cX10_isWord 99 = .ok (.iload 4, 2) := by decide +kernel
theorem dX10_isWord_101 : decode cX10_isWord 101 = .ok (.goto 16, 3) := by decide +kernel
theorem dX10_isWord_104 : decode cX10_isWord 104 = .ok (.iload 9, 2) := by decide +kernel
theorem dX10_isWord_106 : decode cX10_isWord 106 = .ok (.iconst 4, 1) := by decide +kernel
theorem dX10_isWord_107 : decode cX10_isWord 107 = .ok (.if_icmp .ne 8, 3) := by decide +kernel
theorem dX10_isWord_110 : decode cX10_isWord 110 = .ok (.iload 5, 2) := by decide +kernel
theorem dX10_isWord_112 : decode cX10_isWord 112 = .ok (.goto 5, 3) := by decide +kernel
theorem dX10_isWord_115 : decode cX10_isWord 115 = .ok (.iload 6, 2) := by decide +kernel
theorem dX10_isWord_117 : decode cX10_isWord 117 = .ok (.if_icmp .ne 7, 3) := by decide +kernel
theorem dX10_isWord_120 : decode cX10_isWord 120 = .ok (.iconst 1, 1) := by decide +kernel
theorem dX10_isWord_121 : decode cX10_isWord 121 = .ok (.goto 4, 3) := by decide +kernel
theorem dX10_isWord_124 : decode cX10_isWord 124 = .ok (.iconst 0, 1) := by decide +kernel
theorem dX10_isWord_125 : decode cX10_isWord 125 = .ok (.istore 8, 2) := by decide +kernel
theorem dX10_isWord_127 : decode cX10_isWord 127 = .ok (.iinc 9 1, 3) := by decide +kernel
theorem dX10_isWord_130 : decode cX10_isWord 130 = .ok (.goto (-90), 3) := by decide +kernel
theorem dX10_isWord_133 : decode cX10_isWord 133 = .ok (.iload 8, 2) := by decide +kernel
theorem dX10_isWord_135 : decode cX10_isWord 135 = .ok (.ireturn, 1) := by decide +kernel
theorem dX10_takes_0 : decode cX10_takes 0 = .ok (.aload_n 0, 1) := by decide +kernel
theorem dX10_takes_1 : decode cX10_takes 1 = .ok (.getfield 218, 3) := by decide +kernel
theorem dX10_takes_4 : decode cX10_takes 4 = .ok (.iconst 2, 1) := by decide +kernel
theorem dX10_takes_5 : decode cX10_takes 5 = .ok (.if_icmp .ne 18, 3) := by decide +kernel
theorem dX10_takes_8 : decode cX10_takes 8 = .ok (.aload_n 0, 1) := by decide +kernel
theorem dX10_takes_9 : decode cX10_takes 9 = .ok (.getfield 221, 3) := by decide +kernel
theorem dX10_takes_12 : decode cX10_takes 12 = .ok (.i2l, 1) := by decide +kernel
theorem dX10_takes_13 : decode cX10_takes 13 = .ok (.iload_n 2, 1) := by decide +kernel
theorem dX10_takes_14 : decode cX10_takes 14 = .ok (.i2l, 1) := by decide +kernel
theorem dX10_takes_15 : decode cX10_takes 15 = .ok (.iload_n 3, 1) := by decide +kernel
theorem dX10_takes_16 : decode cX10_takes 16 = .ok (.i2l, 1) := by decide +kernel
theorem dX10_takes_17 : decode cX10_takes 17 = .ok (.invokestatic 68, 3) := by decide +kernel
theorem dX10_takes_20 : decode cX10_takes 20 = .ok (.ifCond .ne 5, 3) := by decide +kernel
theorem dX10_takes_23 : decode cX10_takes 23 = .ok (.iconst 0, 1) := by decide +kernel
theorem dX10_takes_24 : decode cX10_takes 24 = .ok (.ireturn, 1) := by decide +kernel
theorem dX10_takes_25 : decode cX10_takes 25 = .ok (.aload_n 0, 1) := by decide +kernel
theorem dX10_takes_26 : decode cX10_takes 26 = .ok (.getfield 54, 3) := by decide +kernel
theorem dX10_takes_29 : decode cX10_takes 29 = .ok (.iload_n 1, 1) := by decide +kernel
theorem dX10_takes_30 : decode cX10_takes 30 = .ok (.aload_n 0, 1) := by decide +kernel
theorem dX10_takes_31 : decode cX10_takes 31 = .ok (.getfield 221, 3) := by decide +kernel
theorem dX10_takes_34 : decode cX10_takes 34 = .ok (.iastore, 1) := by decide +kernel
theorem dX10_takes_35 : decode cX10_takes 35 = .ok (.aload_n 0, 1) := by decide +kernel
theorem dX10_takes_36 : decode cX10_takes 36 = .ok (.invokevirtual 233, 3) := by decide +kernel
theorem dX10_takes_39 : decode cX10_takes 39 = .ok (.iconst 1, 1) := by decide +kernel
theorem dX10_takes_40 : decode cX10_takes 40 = .ok (.ireturn, 1) := by decide +kernel
theorem dX10_readsStrong_0 : decode cX10_readsStrong 0 = .ok (.aload_n 0, 1) := by decide +kernel
theorem dX10_readsStrong_1 : decode cX10_readsStrong 1 = .ok (.invokevirtual 233, 3) := by decide +kernel
theorem dX10_readsStrong_4 : decode cX10_readsStrong 4 = .ok (.aload_n 0, 1) := by decide +kernel
theorem dX10_readsStrong_5 : decode cX10_readsStrong 5 = .ok (.iconst 0, 1) := by decide +kernel
theorem dX10_readsStrong_6 : decode cX10_readsStrong 6 = .ok (.iconst 0, 1) := by decide +kernel
theorem dX10_readsStrong_7 : decode cX10_readsStrong 7 = .ok (.aload_n 0, 1) := by decide +kernel
theorem dX10_readsStrong_8 : decode cX10_readsStrong 8 = .ok (.getfield 51, 3) := by decide +kernel
theorem dX10_readsStrong_11 : decode cX10_readsStrong 11 = .ok (.iconst 1, 1) := by decide +kernel
theorem dX10_readsStrong_12 : decode cX10_readsStrong 12 = .ok (.iaload, 1) := by decide +kernel
theorem dX10_readsStrong_13 : decode cX10_readsStrong 13 = .ok (.iconst 1, 1) := by decide +kernel
theorem dX10_readsStrong_14 : decode cX10_readsStrong 14 = .ok (.isub, 1) := by decide +kernel
theorem dX10_readsStrong_15 : decode cX10_readsStrong 15 = .ok (.invokevirtual 236, 3) := by decide +kernel
theorem dX10_readsStrong_18 : decode cX10_readsStrong 18 = .ok (.ifCond .eq 14, 3) := by decide +kernel
theorem dX10_readsStrong_21 : decode cX10_readsStrong 21 = .ok (.aload_n 0, 1) := by decide +kernel
theorem dX10_readsStrong_22 : decode cX10_readsStrong 22 = .ok (.iconst 1, 1) := by decide +kernel
theorem dX10_readsStrong_23 : decode cX10_readsStrong 23 = .ok (.iconst 0, 1) := by decide +kernel
theorem dX10_readsStrong_24 : decode cX10_readsStrong 24 = .ok (.bipush 99, 2) := by decide +kernel
theorem dX10_readsStrong_26 : decode cX10_readsStrong 26 = .ok (.invokevirtual 236, 3) := by decide +kernel
theorem dX10_readsStrong_29 : decode cX10_readsStrong 29 = .ok (.ifCond .ne 5, 3) := by decide +kernel
theorem dX10_readsStrong_32 : decode cX10_readsStrong 32 = .ok (.iconst 0, 1) := by decide +kernel
theorem dX10_readsStrong_33 : decode cX10_readsStrong 33 = .ok (.ireturn, 1) := by decide +kernel
theorem dX10_readsStrong_34 : decode cX10_readsStrong 34 = .ok (.aload_n 0, 1) := by decide +kernel
theorem dX10_readsStrong_35 : decode cX10_readsStrong 35 = .ok (.getfield 51, 3) := by decide +kernel
theorem dX10_readsStrong_38 : decode cX10_readsStrong 38 = .ok (.iconst 2, 1) := by decide +kernel
theorem dX10_readsStrong_39 : decode cX10_readsStrong 39 = .ok (.aload_n 0, 1) := by decide +kernel
theorem dX10_readsStrong_40 : decode cX10_readsStrong 40 = .ok (.getfield 54, 3) := by decide +kernel
theorem dX10_readsStrong_43 : decode cX10_readsStrong 43 = .ok (.iconst 0, 1) := by decide +kernel
theorem dX10_readsStrong_44 : decode cX10_readsStrong 44 = .ok (.iaload, 1) := by decide +kernel
theorem dX10_readsStrong_45 : decode cX10_readsStrong 45 = .ok (.iadd, 1) := by decide +kernel
theorem dX10_readsStrong_46 : decode cX10_readsStrong 46 = .ok (.aload_n 0, 1) := by decide +kernel
theorem dX10_readsStrong_47 : decode cX10_readsStrong 47 = .ok (.getfield 54, 3) := by decide +kernel
theorem dX10_readsStrong_50 : decode cX10_readsStrong 50 = .ok (.iconst 1, 1) := by decide +kernel
theorem dX10_readsStrong_51 : decode cX10_readsStrong 51 = .ok (.iaload, 1) := by decide +kernel
theorem dX10_readsStrong_52 : decode cX10_readsStrong 52 = .ok (.iastore, 1) := by decide +kernel
theorem dX10_readsStrong_53 : decode cX10_readsStrong 53 = .ok (.iconst 1, 1) := by decide +kernel
theorem dX10_readsStrong_54 : decode cX10_readsStrong 54 = .ok (.ireturn, 1) := by decide +kernel
theorem dX10_readsFavour_0 : decode cX10_readsFavour 0 = .ok (.aload_n 0, 1) := by decide +kernel
theorem dX10_readsFavour_1 : decode cX10_readsFavour 1 = .ok (.getfield 51, 3) := by decide +kernel
theorem dX10_readsFavour_4 : decode cX10_readsFavour 4 = .ok (.sipush 158, 3) := by decide +kernel
theorem dX10_readsFavour_7 : decode cX10_readsFavour 7 = .ok (.iaload, 1) := by decide +kernel
theorem dX10_readsFavour_8 : decode cX10_readsFavour 8 = .ok (.istore_n 1, 1) := by decide +kernel
theorem dX10_readsFavour_9 : decode cX10_readsFavour 9 = .ok (.iload_n 1, 1) := by decide +kernel
theorem dX10_readsFavour_10 : decode cX10_readsFavour 10 = .ok (.bipush 12, 2) := by decide +kernel
theorem dX10_readsFavour_12 : decode cX10_readsFavour 12 = .ok (.if_icmp .ne 5, 3) := by decide +kernel
theorem dX10_readsFavour_15 : decode cX10_readsFavour 15 = .ok (.iconst 0, 1) := by decide +kernel
theorem dX10_readsFavour_16 : decode cX10_readsFavour 16 = .ok (.ireturn, 1) := by decide +kernel
theorem dX10_readsFavour_17 : decode cX10_readsFavour 17 = .ok (.aload_n 0, 1) := by decide +kernel
theorem dX10_readsFavour_18 : decode cX10_readsFavour 18 = .ok (.invokevirtual 233, 3) := by decide +kernel
theorem dX10_readsFavour_21 : decode cX10_readsFavour 21 = .ok (.aload_n 0, 1) := by decide +kernel
theorem dX10_readsFavour_22 : decode cX10_readsFavour 22 = .ok (.iconst 0, 1) := by decide +kernel
theorem dX10_readsFavour_23 : decode cX10_readsFavour 23 = .ok (.iconst 0, 1) := by decide +kernel
theorem dX10_readsFavour_24 : decode cX10_readsFavour 24 = .ok (.iconst 4, 1) := by decide +kernel
theorem dX10_readsFavour_25 : decode cX10_readsFavour 25 = .ok (.invokevirtual 236, 3) := by decide +kernel
theorem dX10_readsFavour_28 : decode cX10_readsFavour 28 = .ok (.ifCond .eq 20, 3) := by decide +kernel
theorem dX10_readsFavour_31 : decode cX10_readsFavour 31 = .ok (.aload_n 0, 1) := by decide +kernel
theorem dX10_readsFavour_32 : decode cX10_readsFavour 32 = .ok (.iconst 1, 1) := by decide +kernel
theorem dX10_readsFavour_33 : decode cX10_readsFavour 33 = .ok (.iconst 0, 1) := by decide +kernel
theorem dX10_readsFavour_34 : decode cX10_readsFavour 34 = .ok (.aload_n 0, 1) := by decide +kernel
theorem dX10_readsFavour_35 : decode cX10_readsFavour 35 = .ok (.getfield 51, 3) := by decide +kernel
theorem dX10_readsFavour_38 : decode cX10_readsFavour 38 = .ok (.iconst 1, 1) := by decide +kernel
theorem dX10_readsFavour_39 : decode cX10_readsFavour 39 = .ok (.iaload, 1) := by decide +kernel
theorem dX10_readsFavour_40 : decode cX10_readsFavour 40 = .ok (.iconst 1, 1) := by decide +kernel
theorem dX10_readsFavour_41 : decode cX10_readsFavour 41 = .ok (.isub, 1) := by decide +kernel
theorem dX10_readsFavour_42 : decode cX10_readsFavour 42 = .ok (.invokevirtual 236, 3) := by decide +kernel
theorem dX10_readsFavour_45 : decode cX10_readsFavour 45 = .ok (.ifCond .ne 5, 3) := by decide +kernel
theorem dX10_readsFavour_48 : decode cX10_readsFavour 48 = .ok (.iconst 0, 1) := by decide +kernel
theorem dX10_readsFavour_49 : decode cX10_readsFavour 49 = .ok (.ireturn, 1) := by decide +kernel
theorem dX10_readsFavour_50 : decode cX10_readsFavour 50 = .ok (.aload_n 0, 1) := by decide +kernel
theorem dX10_readsFavour_51 : decode cX10_readsFavour 51 = .ok (.getfield 218, 3) := by decide +kernel
theorem dX10_readsFavour_54 : decode cX10_readsFavour 54 = .ok (.iconst 2, 1) := by decide +kernel
theorem dX10_readsFavour_55 : decode cX10_readsFavour 55 = .ok (.if_icmp .ne 16, 3) := by decide +kernel
theorem dX10_readsFavour_58 : decode cX10_readsFavour 58 = .ok (.aload_n 0, 1) := by decide +kernel
theorem dX10_readsFavour_59 : decode cX10_readsFavour 59 = .ok (.getfield 221, 3) := by decide +kernel
theorem dX10_readsFavour_62 : decode cX10_readsFavour 62 = .ok (.aload_n 0, 1) := by decide +kernel
theorem dX10_readsFavour_63 : decode cX10_readsFavour 63 = .ok (.getfield 54, 3) := by decide +kernel
theorem dX10_readsFavour_66 : decode cX10_readsFavour 66 = .ok (.iconst 1, 1) := by decide +kernel
theorem dX10_readsFavour_67 : decode cX10_readsFavour 67 = .ok (.iaload, 1) := by decide +kernel
theorem dX10_readsFavour_68 : decode cX10_readsFavour 68 = .ok (.if_icmp .eq 20, 3) := by decide +kernel
theorem dX10_readsFavour_71 : decode cX10_readsFavour 71 = .ok (.aload_n 0, 1) := by decide +kernel
theorem dX10_readsFavour_72 : decode cX10_readsFavour 72 = .ok (.iconst 2, 1) := by decide +kernel
theorem dX10_readsFavour_73 : decode cX10_readsFavour 73 = .ok (.iconst 0, 1) := by decide +kernel
theorem dX10_readsFavour_74 : decode cX10_readsFavour 74 = .ok (.aload_n 0, 1) := by decide +kernel
theorem dX10_readsFavour_75 : decode cX10_readsFavour 75 = .ok (.getfield 51, 3) := by decide +kernel
theorem dX10_readsFavour_78 : decode cX10_readsFavour 78 = .ok (.iconst 1, 1) := by decide +kernel
theorem dX10_readsFavour_79 : decode cX10_readsFavour 79 = .ok (.iaload, 1) := by decide +kernel
theorem dX10_readsFavour_80 : decode cX10_readsFavour 80 = .ok (.iconst 1, 1) := by decide +kernel
theorem dX10_readsFavour_81 : decode cX10_readsFavour 81 = .ok (.isub, 1) := by decide +kernel
theorem dX10_readsFavour_82 : decode cX10_readsFavour 82 = .ok (.invokevirtual 236, 3) := by decide +kernel
theorem dX10_readsFavour_85 : decode cX10_readsFavour 85 = .ok (.ifCond .ne 5, 3) := by decide +kernel
theorem dX10_readsFavour_88 : decode cX10_readsFavour 88 = .ok (.iconst 0, 1) := by decide +kernel
theorem dX10_readsFavour_89 : decode cX10_readsFavour 89 = .ok (.ireturn, 1) := by decide +kernel
theorem dX10_readsFavour_90 : decode cX10_readsFavour 90 = .ok (.aload_n 0, 1) := by decide +kernel
theorem dX10_readsFavour_91 : decode cX10_readsFavour 91 = .ok (.iconst 3, 1) := by decide +kernel
theorem dX10_readsFavour_92 : decode cX10_readsFavour 92 = .ok (.iconst 0, 1) := by decide +kernel
theorem dX10_readsFavour_93 : decode cX10_readsFavour 93 = .ok (.iconst 3, 1) := by decide +kernel
theorem dX10_readsFavour_94 : decode cX10_readsFavour 94 = .ok (.invokevirtual 236, 3) := by decide +kernel
theorem dX10_readsFavour_97 : decode cX10_readsFavour 97 = .ok (.ifCond .eq 25, 3) := by decide +kernel
theorem dX10_readsFavour_100 : decode cX10_readsFavour 100 = .ok (.aload_n 0, 1) := by decide +kernel
theorem dX10_readsFavour_101 : decode cX10_readsFavour 101 = .ok (.iconst 4, 1) := by decide +kernel
theorem dX10_readsFavour_102 : decode cX10_readsFavour 102 = .ok (.iconst 1, 1) := by decide +kernel
theorem dX10_readsFavour_103 : decode cX10_readsFavour 103 = .ok (.bipush 40, 2) := by decide +kernel
theorem dX10_readsFavour_105 : decode cX10_readsFavour 105 = .ok (.invokevirtual 236, 3) := by decide +kernel
theorem dX10_readsFavour_108 : decode cX10_readsFavour 108 = .ok (.ifCond .eq 14, 3) := by decide +kernel
theorem dX10_readsFavour_111 : decode cX10_readsFavour 111 = .ok (.aload_n 0, 1) := by decide +kernel
theorem dX10_readsFavour_112 : decode cX10_readsFavour 112 = .ok (.iconst 5, 1) := by decide +kernel
theorem dX10_readsFavour_113 : decode cX10_readsFavour 113 = .ok (.iconst 0, 1) := by decide +kernel
theorem dX10_readsFavour_114 : decode cX10_readsFavour 114 = .ok (.bipush 99, 2) := by decide +kernel
theorem dX10_readsFavour_116 : decode cX10_readsFavour 116 = .ok (.invokevirtual 236, 3) := by decide +kernel
theorem dX10_readsFavour_119 : decode cX10_readsFavour 119 = .ok (.ifCond .ne 5, 3) := by decide +kernel
theorem dX10_readsFavour_122 : decode cX10_readsFavour 122 = .ok (.iconst 0, 1) := by decide +kernel
theorem dX10_readsFavour_123 : decode cX10_readsFavour 123 = .ok (.ireturn, 1) := by decide +kernel
theorem dX10_readsFavour_124 : decode cX10_readsFavour 124 = .ok (.aload_n 0, 1) := by decide +kernel
theorem dX10_readsFavour_125 : decode cX10_readsFavour 125 = .ok (.getfield 51, 3) := by decide +kernel
theorem dX10_readsFavour_128 : decode cX10_readsFavour 128 = .ok (.iload_n 1, 1) := by decide +kernel
theorem dX10_readsFavour_129 : decode cX10_readsFavour 129 = .ok (.aload_n 0, 1) := by decide +kernel
theorem dX10_readsFavour_130 : decode cX10_readsFavour 130 = .ok (.getfield 54, 3) := by decide +kernel
theorem dX10_readsFavour_133 : decode cX10_readsFavour 133 = .ok (.iconst 0, 1) := by decide +kernel
theorem dX10_readsFavour_134 : decode cX10_readsFavour 134 = .ok (.iaload, 1) := by decide +kernel
theorem dX10_readsFavour_135 : decode cX10_readsFavour 135 = .ok (.aload_n 0, 1) := by decide +kernel
theorem dX10_readsFavour_136 : decode cX10_readsFavour 136 = .ok (.getfield 54, 3) := by decide +kernel
theorem dX10_readsFavour_139 : decode cX10_readsFavour 139 = .ok (.iconst 1, 1) := by decide +kernel
theorem dX10_readsFavour_140 : decode cX10_readsFavour 140 = .ok (.iaload, 1) := by decide +kernel
theorem dX10_readsFavour_141 : decode cX10_readsFavour 141 = .ok (.aload_n 0, 1) := by decide +kernel
theorem dX10_readsFavour_142 : decode cX10_readsFavour 142 = .ok (.getfield 54, 3) := by decide +kernel
theorem dX10_readsFavour_145 : decode cX10_readsFavour 145 = .ok (.iconst 2, 1) := by decide +kernel
theorem dX10_readsFavour_146 : decode cX10_readsFavour 146 = .ok (.iaload, 1) := by decide +kernel
theorem dX10_readsFavour_147 : decode cX10_readsFavour 147 = .ok (.aload_n 0, 1) := by decide +kernel
theorem dX10_readsFavour_148 : decode cX10_readsFavour 148 = .ok (.getfield 54, 3) := by decide +kernel
theorem dX10_readsFavour_151 : decode cX10_readsFavour 151 = .ok (.iconst 3, 1) := by decide +kernel
theorem dX10_readsFavour_152 : decode cX10_readsFavour 152 = .ok (.iaload, 1) := by decide +kernel
theorem dX10_readsFavour_153 : decode cX10_readsFavour 153 = .ok (.aload_n 0, 1) := by decide +kernel
theorem dX10_readsFavour_154 : decode cX10_readsFavour 154 = .ok (.getfield 54, 3) := by decide +kernel
theorem dX10_readsFavour_157 : decode cX10_readsFavour 157 = .ok (.iconst 4, 1) := by decide +kernel
theorem dX10_readsFavour_158 : decode cX10_readsFavour 158 = .ok (.iaload, 1) := by decide +kernel
theorem dX10_readsFavour_159 : decode cX10_readsFavour 159 = .ok (.aload_n 0, 1) := by decide +kernel
theorem dX10_readsFavour_160 : decode cX10_readsFavour 160 = .ok (.getfield 54, 3) := by decide +kernel
theorem dX10_readsFavour_163 : decode cX10_readsFavour 163 = .ok (.iconst 5, 1) := by decide +kernel
theorem dX10_readsFavour_164 : decode cX10_readsFavour 164 = .ok (.iaload, 1) := by decide +kernel
theorem dX10_readsFavour_165 : decode cX10_readsFavour 165 = .ok (.iconst 0, 1) := by decide +kernel
theorem dX10_readsFavour_166 : decode cX10_readsFavour 166 = .ok (.invokestatic 104, 3) := by decide +kernel
theorem dX10_readsFavour_169 : decode cX10_readsFavour 169 = .ok (.aload_n 0, 1) := by decide +kernel
theorem dX10_readsFavour_170 : decode cX10_readsFavour 170 = .ok (.getfield 51, 3) := by decide +kernel
theorem dX10_readsFavour_173 : decode cX10_readsFavour 173 = .ok (.sipush 158, 3) := by decide +kernel
theorem dX10_readsFavour_176 : decode cX10_readsFavour 176 = .ok (.dup2, 1) := by decide +kernel
theorem dX10_readsFavour_177 : decode cX10_readsFavour 177 = .ok (.iaload, 1) := by decide +kernel
theorem dX10_readsFavour_178 : decode cX10_readsFavour 178 = .ok (.iconst 1, 1) := by decide +kernel
theorem dX10_readsFavour_179 : decode cX10_readsFavour 179 = .ok (.iadd, 1) := by decide +kernel
theorem dX10_readsFavour_180 : decode cX10_readsFavour 180 = .ok (.iastore, 1) := by decide +kernel
theorem dX10_readsFavour_181 : decode cX10_readsFavour 181 = .ok (.iconst 1, 1) := by decide +kernel
theorem dX10_readsFavour_182 : decode cX10_readsFavour 182 = .ok (.ireturn, 1) := by decide +kernel
theorem dX10_readsNeed_0 : decode cX10_readsNeed 0 = .ok (.aload_n 0, 1) := by decide +kernel
theorem dX10_readsNeed_1 : decode cX10_readsNeed 1 = .ok (.getfield 51, 3) := by decide +kernel
theorem dX10_readsNeed_4 : decode cX10_readsNeed 4 = .ok (.sipush 159, 3) := by decide +kernel
theorem dX10_readsNeed_7 : decode cX10_readsNeed 7 = .ok (.iaload, 1) := by decide +kernel
theorem dX10_readsNeed_8 : decode cX10_readsNeed 8 = .ok (.istore_n 1, 1) := by decide +kernel
theorem dX10_readsNeed_9 : decode cX10_readsNeed 9 = .ok (.iload_n 1, 1) := by decide +kernel
theorem dX10_readsNeed_10 : decode cX10_readsNeed 10 = .ok (.iconst 5, 1) := by decide +kernel
theorem dX10_readsNeed_11 : decode cX10_readsNeed 11 = .ok (.if_icmp .ne 5, 3) := by decide +kernel
theorem dX10_readsNeed_14 : decode cX10_readsNeed 14 = .ok (.iconst 0, 1) := by decide +kernel
theorem dX10_readsNeed_15 : decode cX10_readsNeed 15 = .ok (.ireturn, 1) := by decide +kernel
theorem dX10_readsNeed_16 : decode cX10_readsNeed 16 = .ok (.aload_n 0, 1) := by decide +kernel
theorem dX10_readsNeed_17 : decode cX10_readsNeed 17 = .ok (.invokevirtual 233, 3) := by decide +kernel
theorem dX10_readsNeed_20 : decode cX10_readsNeed 20 = .ok (.aload_n 0, 1) := by decide +kernel
theorem dX10_readsNeed_21 : decode cX10_readsNeed 21 = .ok (.iconst 0, 1) := by decide +kernel
theorem dX10_readsNeed_22 : decode cX10_readsNeed 22 = .ok (.iconst 0, 1) := by decide +kernel
theorem dX10_readsNeed_23 : decode cX10_readsNeed 23 = .ok (.aload_n 0, 1) := by decide +kernel
theorem dX10_readsNeed_24 : decode cX10_readsNeed 24 = .ok (.getfield 51, 3) := by decide +kernel
theorem dX10_readsNeed_27 : decode cX10_readsNeed 27 = .ok (.iconst 1, 1) := by decide +kernel
theorem dX10_readsNeed_28 : decode cX10_readsNeed 28 = .ok (.iaload, 1) := by decide +kernel
theorem dX10_readsNeed_29 : decode cX10_readsNeed 29 = .ok (.iconst 1, 1) := by decide +kernel
theorem dX10_readsNeed_30 : decode cX10_readsNeed 30 = .ok (.isub, 1) := by decide +kernel
theorem dX10_readsNeed_31 : decode cX10_readsNeed 31 = .ok (.invokevirtual 236, 3) := by decide +kernel
theorem dX10_readsNeed_34 : decode cX10_readsNeed 34 = .ok (.ifCond .eq 35, 3) := by decide +kernel
theorem dX10_readsNeed_37 : decode cX10_readsNeed 37 = .ok (.aload_n 0, 1) := by decide +kernel
theorem dX10_readsNeed_38 : decode cX10_readsNeed 38 = .ok (.iconst 1, 1) := by decide +kernel
theorem dX10_readsNeed_39 : decode cX10_readsNeed 39 = .ok (.iconst 0, 1) := by decide +kernel
theorem dX10_readsNeed_40 : decode cX10_readsNeed 40 = .ok (.iconst 3, 1) := by decide +kernel
theorem dX10_readsNeed_41 : decode cX10_readsNeed 41 = .ok (.invokevirtual 236, 3) := by decide +kernel
theorem dX10_readsNeed_44 : decode cX10_readsNeed 44 = .ok (.ifCond .eq 25, 3) := by decide +kernel
theorem dX10_readsNeed_47 : decode cX10_readsNeed 47 = .ok (.aload_n 0, 1) := by decide +kernel
theorem dX10_readsNeed_48 : decode cX10_readsNeed 48 = .ok (.iconst 2, 1) := by decide +kernel
theorem dX10_readsNeed_49 : decode cX10_readsNeed 49 = .ok (.iconst 1, 1) := by decide +kernel
theorem dX10_readsNeed_50 : decode cX10_readsNeed 50 = .ok (.bipush 40, 2) := by decide +kernel
theorem dX10_readsNeed_52 : decode cX10_readsNeed 52 = .ok (.invokevirtual 236, 3) := by decide +kernel
theorem dX10_readsNeed_55 : decode cX10_readsNeed 55 = .ok (.ifCond .eq 14, 3) := by decide +kernel
theorem dX10_readsNeed_58 : decode cX10_readsNeed 58 = .ok (.aload_n 0, 1) := by decide +kernel
theorem dX10_readsNeed_59 : decode cX10_readsNeed 59 = .ok (.iconst 3, 1) := by decide +kernel
theorem dX10_readsNeed_60 : decode cX10_readsNeed 60 = .ok (.iconst 0, 1) := by decide +kernel
theorem dX10_readsNeed_61 : decode cX10_readsNeed 61 = .ok (.bipush 99, 2) := by decide +kernel
theorem dX10_readsNeed_63 : decode cX10_readsNeed 63 = .ok (.invokevirtual 236, 3) := by decide +kernel
theorem dX10_readsNeed_66 : decode cX10_readsNeed 66 = .ok (.ifCond .ne 5, 3) := by decide +kernel
theorem dX10_readsNeed_69 : decode cX10_readsNeed 69 = .ok (.iconst 0, 1) := by decide +kernel
theorem dX10_readsNeed_70 : decode cX10_readsNeed 70 = .ok (.ireturn, 1) := by decide +kernel
theorem dX10_readsNeed_71 : decode cX10_readsNeed 71 = .ok (.aload_n 0, 1) := by decide +kernel
theorem dX10_readsNeed_72 : decode cX10_readsNeed 72 = .ok (.getfield 51, 3) := by decide +kernel
theorem dX10_readsNeed_75 : decode cX10_readsNeed 75 = .ok (.iload_n 1, 1) := by decide +kernel
theorem dX10_readsNeed_76 : decode cX10_readsNeed 76 = .ok (.aload_n 0, 1) := by decide +kernel
theorem dX10_readsNeed_77 : decode cX10_readsNeed 77 = .ok (.getfield 54, 3) := by decide +kernel
theorem dX10_readsNeed_80 : decode cX10_readsNeed 80 = .ok (.iconst 0, 1) := by decide +kernel
theorem dX10_readsNeed_81 : decode cX10_readsNeed 81 = .ok (.iaload, 1) := by decide +kernel
theorem dX10_readsNeed_82 : decode cX10_readsNeed 82 = .ok (.aload_n 0, 1) := by decide +kernel
theorem dX10_readsNeed_83 : decode cX10_readsNeed 83 = .ok (.getfield 54, 3) := by decide +kernel
theorem dX10_readsNeed_86 : decode cX10_readsNeed 86 = .ok (.iconst 1, 1) := by decide +kernel
theorem dX10_readsNeed_87 : decode cX10_readsNeed 87 = .ok (.iaload, 1) := by decide +kernel
theorem dX10_readsNeed_88 : decode cX10_readsNeed 88 = .ok (.aload_n 0, 1) := by decide +kernel
theorem dX10_readsNeed_89 : decode cX10_readsNeed 89 = .ok (.getfield 54, 3) := by decide +kernel
theorem dX10_readsNeed_92 : decode cX10_readsNeed 92 = .ok (.iconst 2, 1) := by decide +kernel
theorem dX10_readsNeed_93 : decode cX10_readsNeed 93 = .ok (.iaload, 1) := by decide +kernel
theorem dX10_readsNeed_94 : decode cX10_readsNeed 94 = .ok (.aload_n 0, 1) := by decide +kernel
theorem dX10_readsNeed_95 : decode cX10_readsNeed 95 = .ok (.getfield 54, 3) := by decide +kernel
theorem dX10_readsNeed_98 : decode cX10_readsNeed 98 = .ok (.iconst 3, 1) := by decide +kernel
theorem dX10_readsNeed_99 : decode cX10_readsNeed 99 = .ok (.iaload, 1) := by decide +kernel
theorem dX10_readsNeed_100 : decode cX10_readsNeed 100 = .ok (.invokestatic 108, 3) := by decide +kernel
theorem dX10_readsNeed_103 : decode cX10_readsNeed 103 = .ok (.aload_n 0, 1) := by decide +kernel
theorem dX10_readsNeed_104 : decode cX10_readsNeed 104 = .ok (.getfield 51, 3) := by decide +kernel
theorem dX10_readsNeed_107 : decode cX10_readsNeed 107 = .ok (.sipush 159, 3) := by decide +kernel
theorem dX10_readsNeed_110 : decode cX10_readsNeed 110 = .ok (.dup2, 1) := by decide +kernel
theorem dX10_readsNeed_111 : decode cX10_readsNeed 111 = .ok (.iaload, 1) := by decide +kernel
theorem dX10_readsNeed_112 : decode cX10_readsNeed 112 = .ok (.iconst 1, 1) := by decide +kernel
theorem dX10_readsNeed_113 : decode cX10_readsNeed 113 = .ok (.iadd, 1) := by decide +kernel
theorem dX10_readsNeed_114 : decode cX10_readsNeed 114 = .ok (.iastore, 1) := by decide +kernel
theorem dX10_readsNeed_115 : decode cX10_readsNeed 115 = .ok (.iconst 1, 1) := by decide +kernel
theorem dX10_readsNeed_116 : decode cX10_readsNeed 116 = .ok (.ireturn, 1) := by decide +kernel
theorem dX10_readsItem_0 : decode cX10_readsItem 0 = .ok (.iload_n 1, 1) := by decide +kernel
theorem dX10_readsItem_1 : decode cX10_readsItem 1 = .ok (.ifCond .eq 52, 3) := by decide +kernel
theorem dX10_readsItem_4 : decode cX10_readsItem 4 = .ok (.aload_n 0, 1) := by decide +kernel
theorem dX10_readsItem_5 : decode cX10_readsItem 5 = .ok (.bipush 112, 2) := by decide +kernel
theorem dX10_readsItem_7 : decode cX10_readsItem 7 = .ok (.bipush 101, 2) := by decide +kernel
theorem dX10_readsItem_9 : decode cX10_readsItem 9 = .ok (.bipush 111, 2) := by decide +kernel
theorem dX10_readsItem_11 : decode cX10_readsItem 11 = .ok (.bipush 112, 2) := by decide +kernel
theorem dX10_readsItem_13 : decode cX10_readsItem 13 = .ok (.bipush 108, 2) := by decide +kernel
theorem dX10_readsItem_15 : decode cX10_readsItem 15 = .ok (.bipush 101, 2) := by decide +kernel
theorem dX10_readsItem_17 : decode cX10_readsItem 17 = .ok (.invokevirtual 240, 3) := by decide +kernel
theorem dX10_readsItem_20 : decode cX10_readsItem 20 = .ok (.ifCond .ne 5, 3) := by decide +kernel
theorem dX10_readsItem_23 : decode cX10_readsItem 23 = .ok (.iconst 0, 1) := by decide +kernel
theorem dX10_readsItem_24 : decode cX10_readsItem 24 = .ok (.ireturn, 1) := by decide +kernel
theorem dX10_readsItem_25 : decode cX10_readsItem 25 = .ok (.aload_n 0, 1) := by decide +kernel
theorem dX10_readsItem_26 : decode cX10_readsItem 26 = .ok (.invokevirtual 233, 3) := by decide +kernel
theorem dX10_readsItem_29 : decode cX10_readsItem 29 = .ok (.aload_n 0, 1) := by decide +kernel
theorem dX10_readsItem_30 : decode cX10_readsItem 30 = .ok (.iconst 0, 1) := by decide +kernel
theorem dX10_readsItem_31 : decode cX10_readsItem 31 = .ok (.iconst 2, 1) := by decide +kernel
theorem dX10_readsItem_32 : decode cX10_readsItem 32 = .ok (.bipush 6, 2) := by decide +kernel
theorem dX10_readsItem_34 : decode cX10_readsItem 34 = .ok (.invokevirtual 236, 3) := by decide +kernel
theorem dX10_readsItem_37 : decode cX10_readsItem 37 = .ok (.istore_n 2, 1) := by decide +kernel
theorem dX10_readsItem_38 : decode cX10_readsItem 38 = .ok (.aload_n 0, 1) := by decide +kernel
theorem dX10_readsItem_39 : decode cX10_readsItem 39 = .ok (.getfield 51, 3) := by decide +kernel
theorem dX10_readsItem_42 : decode cX10_readsItem 42 = .ok (.aload_n 0, 1) := by decide +kernel
theorem dX10_readsItem_43 : decode cX10_readsItem 43 = .ok (.getfield 54, 3) := by decide +kernel
theorem dX10_readsItem_46 : decode cX10_readsItem 46 = .ok (.iconst 0, 1) := by decide +kernel
theorem dX10_readsItem_47 : decode cX10_readsItem 47 = .ok (.iaload, 1) := by decide +kernel
theorem dX10_readsItem_48 : decode cX10_readsItem 48 = .ok (.invokestatic 57, 3) := by decide +kernel
theorem dX10_readsItem_51 : decode cX10_readsItem 51 = .ok (.iload_n 2, 1) := by decide +kernel
theorem dX10_readsItem_52 : decode cX10_readsItem 52 = .ok (.ireturn, 1) := by decide +kernel
theorem dX10_readsItem_53 : decode cX10_readsItem 53 = .ok (.aload_n 0, 1) := by decide +kernel
theorem dX10_readsItem_54 : decode cX10_readsItem 54 = .ok (.bipush 115, 2) := by decide +kernel
theorem dX10_readsItem_56 : decode cX10_readsItem 56 = .ok (.bipush 116, 2) := by decide +kernel
theorem dX10_readsItem_58 : decode cX10_readsItem 58 = .ok (.bipush 114, 2) := by decide +kernel
theorem dX10_readsItem_60 : decode cX10_readsItem 60 = .ok (.bipush 111, 2) := by decide +kernel
theorem dX10_readsItem_62 : decode cX10_readsItem 62 = .ok (.bipush 110, 2) := by decide +kernel
theorem dX10_readsItem_64 : decode cX10_readsItem 64 = .ok (.bipush 103, 2) := by decide +kernel
theorem dX10_readsItem_66 : decode cX10_readsItem 66 = .ok (.invokevirtual 240, 3) := by decide +kernel
theorem dX10_readsItem_69 : decode cX10_readsItem 69 = .ok (.ifCond .eq 8, 3) := by decide +kernel
theorem dX10_readsItem_72 : decode cX10_readsItem 72 = .ok (.aload_n 0, 1) := by decide +kernel
theorem dX10_readsItem_73 : decode cX10_readsItem 73 = .ok (.invokevirtual 244, 3) := by decide +kernel
theorem dX10_readsItem_76 : decode cX10_readsItem 76 = .ok (.ireturn, 1) := by decide +kernel
theorem dX10_readsItem_77 : decode cX10_readsItem 77 = .ok (.aload_n 0, 1) := by decide +kernel
theorem dX10_readsItem_78 : decode cX10_readsItem 78 = .ok (.bipush 102, 2) := by decide +kernel
theorem dX10_readsItem_80 : decode cX10_readsItem 80 = .ok (.bipush 97, 2) := by decide +kernel
theorem dX10_readsItem_82 : decode cX10_readsItem 82 = .ok (.bipush 118, 2) := by decide +kernel
theorem dX10_readsItem_84 : decode cX10_readsItem 84 = .ok (.bipush 111, 2) := by decide +kernel
theorem dX10_readsItem_86 : decode cX10_readsItem 86 = .ok (.bipush 117, 2) := by decide +kernel
theorem dX10_readsItem_88 : decode cX10_readsItem 88 = .ok (.bipush 114, 2) := by decide +kernel
theorem dX10_readsItem_90 : decode cX10_readsItem 90 = .ok (.invokevirtual 240, 3) := by decide +kernel
theorem dX10_readsItem_93 : decode cX10_readsItem 93 = .ok (.ifCond .eq 8, 3) := by decide +kernel
theorem dX10_readsItem_96 : decode cX10_readsItem 96 = .ok (.aload_n 0, 1) := by decide +kernel
theorem dX10_readsItem_97 : decode cX10_readsItem 97 = .ok (.invokevirtual 248, 3) := by decide +kernel
theorem dX10_readsItem_100 : decode cX10_readsItem 100 = .ok (.ireturn, 1) := by decide +kernel
theorem dX10_readsItem_101 : decode cX10_readsItem 101 = .ok (.aload_n 0, 1) := by decide +kernel
theorem dX10_readsItem_102 : decode cX10_readsItem 102 = .ok (.bipush 110, 2) := by decide +kernel
theorem dX10_readsItem_104 : decode cX10_readsItem 104 = .ok (.bipush 101, 2) := by decide +kernel
theorem dX10_readsItem_106 : decode cX10_readsItem 106 = .ok (.bipush 101, 2) := by decide +kernel
theorem dX10_readsItem_108 : decode cX10_readsItem 108 = .ok (.bipush 100, 2) := by decide +kernel
theorem dX10_readsItem_110 : decode cX10_readsItem 110 = .ok (.iconst 0, 1) := by decide +kernel
theorem dX10_readsItem_111 : decode cX10_readsItem 111 = .ok (.iconst 0, 1) := by decide +kernel
theorem dX10_readsItem_112 : decode cX10_readsItem 112 = .ok (.invokevirtual 240, 3) := by decide +kernel
theorem dX10_readsItem_115 : decode cX10_readsItem 115 = .ok (.ifCond .eq 14, 3) := by decide +kernel
theorem dX10_readsItem_118 : decode cX10_readsItem 118 = .ok (.aload_n 0, 1) := by decide +kernel
theorem dX10_readsItem_119 : decode cX10_readsItem 119 = .ok (.invokevirtual 251, 3) := by decide +kernel
theorem dX10_readsItem_122 : decode cX10_readsItem 122 = .ok (.ifCond .eq 7, 3) := by decide +kernel
theorem dX10_readsItem_125 : decode cX10_readsItem 125 = .ok (.iconst 1, 1) := by decide +kernel
theorem dX10_readsItem_126 : decode cX10_readsItem 126 = .ok (.goto 4, 3) := by decide +kernel
theorem dX10_readsItem_129 : decode cX10_readsItem 129 = .ok (.iconst 0, 1) := by decide +kernel
theorem dX10_readsItem_130 : decode cX10_readsItem 130 = .ok (.ireturn, 1) := by decide +kernel
theorem dX10_read_0 : decode cX10_read 0 = .ok (.aload_n 0, 1) := by decide +kernel
theorem dX10_read_1 : decode cX10_read 1 = .ok (.iconst 0, 1) := by decide +kernel
theorem dX10_read_2 : decode cX10_read 2 = .ok (.invokevirtual 230, 3) := by decide +kernel
theorem dX10_read_5 : decode cX10_read 5 = .ok (.iconst 0, 1) := by decide +kernel
theorem dX10_read_6 : decode cX10_read 6 = .ok (.istore_n 1, 1) := by decide +kernel
theorem dX10_read_7 : decode cX10_read 7 = .ok (.aload_n 0, 1) := by decide +kernel
theorem dX10_read_8 : decode cX10_read 8 = .ok (.getfield 218, 3) := by decide +kernel
theorem dX10_read_11 : decode cX10_read 11 = .ok (.ifCond .ne 7, 3) := by decide +kernel
theorem dX10_read_14 : decode cX10_read 14 = .ok (.iload_n 1, 1) := by decide +kernel
theorem dX10_read_15 : decode cX10_read 15 = .ok (.ifCond .ne 45, 3) := by decide +kernel
theorem dX10_read_18 : decode cX10_read 18 = .ok (.aload_n 0, 1) := by decide +kernel
theorem dX10_read_19 : decode cX10_read 19 = .ok (.iload_n 1, 1) := by decide +kernel
theorem dX10_read_20 : decode cX10_read 20 = .ok (.ifCond .ne 7, 3) := by decide +kernel
theorem dX10_read_23 : decode cX10_read 23 = .ok (.iconst 1, 1) := by decide +kernel
theorem dX10_read_24 : decode cX10_read 24 = .ok (.goto 4, 3) := by decide +kernel
theorem dX10_read_27 : decode cX10_read 27 = .ok (.iconst 0, 1) := by decide +kernel
theorem dX10_read_28 : decode cX10_read 28 = .ok (.invokevirtual 254, 3) := by decide +kernel
theorem dX10_read_31 : decode cX10_read 31 = .ok (.ifCond .eq 11, 3) := by decide +kernel
theorem dX10_read_34 : decode cX10_read 34 = .ok (.aload_n 0, 1) := by decide +kernel
theorem dX10_read_35 : decode cX10_read 35 = .ok (.getfield 218, 3) := by decide +kernel
theorem dX10_read_38 : decode cX10_read 38 = .ok (.iconst 3, 1) := by decide +kernel
theorem dX10_read_39 : decode cX10_read 39 = .ok (.if_icmp .eq 11, 3) := by decide +kernel
theorem dX10_read_42 : decode cX10_read 42 = .ok (.bipush (-10), 2) := by decide +kernel
theorem dX10_read_44 : decode cX10_read 44 = .ok (.aload_n 0, 1) := by decide +kernel
theorem dX10_read_45 : decode cX10_read 45 = .ok (.getfield 212, 3) := by decide +kernel
theorem dX10_read_48 : decode cX10_read 48 = .ok (.isub, 1) := by decide +kernel
theorem dX10_read_49 : decode cX10_read 49 = .ok (.ireturn, 1) := by decide +kernel
theorem dX10_read_50 : decode cX10_read 50 = .ok (.aload_n 0, 1) := by decide +kernel
theorem dX10_read_51 : decode cX10_read 51 = .ok (.invokevirtual 233, 3) := by decide +kernel
theorem dX10_read_54 : decode cX10_read 54 = .ok (.iinc 1 1, 3) := by decide +kernel
theorem dX10_read_57 : decode cX10_read 57 = .ok (.goto (-50), 3) := by decide +kernel
theorem dX10_read_60 : decode cX10_read 60 = .ok (.iconst 0, 1) := by decide +kernel
theorem dX10_read_61 : decode cX10_read 61 = .ok (.istore_n 2, 1) := by decide +kernel
theorem dX10_read_62 : decode cX10_read 62 = .ok (.iload_n 2, 1) := by decide +kernel
theorem dX10_read_63 : decode cX10_read 63 = .ok (.sipush 161, 3) := by decide +kernel
theorem dX10_read_66 : decode cX10_read 66 = .ok (.if_icmp .ge 44, 3) := by decide +kernel
theorem dX10_read_69 : decode cX10_read 69 = .ok (.aload_n 0, 1) := by decide +kernel
theorem dX10_read_70 : decode cX10_read 70 = .ok (.getfield 7, 3) := by decide +kernel
theorem dX10_read_73 : decode cX10_read 73 = .ok (.iload_n 2, 1) := by decide +kernel
theorem dX10_read_74 : decode cX10_read 74 = .ok (.iload_n 2, 1) := by decide +kernel
theorem dX10_read_75 : decode cX10_read 75 = .ok (.i2l, 1) := by decide +kernel
theorem dX10_read_76 : decode cX10_read 76 = .ok (.ldc2_w 258, 3) := by decide +kernel
theorem dX10_read_79 : decode cX10_read 79 = .ok (.ldc2_w 260, 3) := by decide +kernel
theorem dX10_read_82 : decode cX10_read 82 = .ok (.invokestatic 68, 3) := by decide +kernel
theorem dX10_read_85 : decode cX10_read 85 = .ok (.ifCond .eq 12, 3) := by decide +kernel
theorem dX10_read_88 : decode cX10_read 88 = .ok (.aload_n 0, 1) := by decide +kernel
theorem dX10_read_89 : decode cX10_read 89 = .ok (.getfield 7, 3) := by decide +kernel
theorem dX10_read_92 : decode cX10_read 92 = .ok (.iload_n 2, 1) := by decide +kernel
theorem dX10_read_93 : decode cX10_read 93 = .ok (.iaload, 1) := by decide +kernel
theorem dX10_read_94 : decode cX10_read 94 = .ok (.goto 9, 3) := by decide +kernel
theorem dX10_read_97 : decode cX10_read 97 = .ok (.aload_n 0, 1) := by decide +kernel
theorem dX10_read_98 : decode cX10_read 98 = .ok (.getfield 51, 3) := by decide +kernel
theorem dX10_read_101 : decode cX10_read 101 = .ok (.iload_n 2, 1) := by decide +kernel
theorem dX10_read_102 : decode cX10_read 102 = .ok (.iaload, 1) := by decide +kernel
theorem dX10_read_103 : decode cX10_read 103 = .ok (.iastore, 1) := by decide +kernel
theorem dX10_read_104 : decode cX10_read 104 = .ok (.iinc 2 1, 3) := by decide +kernel
theorem dX10_read_107 : decode cX10_read 107 = .ok (.goto (-45), 3) := by decide +kernel
theorem dX10_read_110 : decode cX10_read 110 = .ok (.aload_n 0, 1) := by decide +kernel
theorem dX10_read_111 : decode cX10_read 111 = .ok (.getfield 7, 3) := by decide +kernel
theorem dX10_read_114 : decode cX10_read 114 = .ok (.sipush 161, 3) := by decide +kernel
theorem dX10_read_117 : decode cX10_read 117 = .ok (.iconst 0, 1) := by decide +kernel
theorem dX10_read_118 : decode cX10_read 118 = .ok (.iastore, 1) := by decide +kernel
theorem dX10_read_119 : decode cX10_read 119 = .ok (.iload_n 1, 1) := by decide +kernel
theorem dX10_read_120 : decode cX10_read 120 = .ok (.ireturn, 1) := by decide +kernel
theorem dX10_part_0 : decode cX10_part 0 = .ok (.iload_n 1, 1) := by decide +kernel
theorem dX10_part_1 : decode cX10_part 1 = .ok (.ifCond .ne 10, 3) := by decide +kernel
theorem dX10_part_4 : decode cX10_part 4 = .ok (.aload_n 0, 1) := by decide +kernel
theorem dX10_part_5 : decode cX10_part 5 = .ok (.getfield 61, 3) := by decide +kernel
theorem dX10_part_8 : decode cX10_part 8 = .ok (.goto 22, 3) := by decide +kernel
theorem dX10_part_11 : decode cX10_part 11 = .ok (.iload_n 1, 1) := by decide +kernel
theorem dX10_part_12 : decode cX10_part 12 = .ok (.iconst 1, 1) := by decide +kernel
theorem dX10_part_13 : decode cX10_part 13 = .ok (.if_icmp .ne 10, 3) := by decide +kernel
theorem dX10_part_16 : decode cX10_part 16 = .ok (.aload_n 0, 1) := by decide +kernel
theorem dX10_part_17 : decode cX10_part 17 = .ok (.getfield 23, 3) := by decide +kernel
theorem dX10_part_20 : decode cX10_part 20 = .ok (.goto 10, 3) := by decide +kernel
theorem dX10_part_23 : decode cX10_part 23 = .ok (.aload_n 0, 1) := by decide +kernel
theorem dX10_part_24 : decode cX10_part 24 = .ok (.bipush (-2), 2) := by decide +kernel
theorem dX10_part_26 : decode cX10_part 26 = .ok (.invokevirtual 80, 3) := by decide +kernel
theorem dX10_part_29 : decode cX10_part 29 = .ok (.i2l, 1) := by decide +kernel
theorem dX10_part_30 : decode cX10_part 30 = .ok (.lreturn, 1) := by decide +kernel
theorem dX10_image_0 : decode cX10_image 0 = .ok (.iload_n 1, 1) := by decide +kernel
theorem dX10_image_1 : decode cX10_image 1 = .ok (.i2l, 1) := by decide +kernel
theorem dX10_image_2 : decode cX10_image 2 = .ok (.lconst 0, 1) := by decide +kernel
theorem dX10_image_3 : decode cX10_image 3 = .ok (.lconst 1, 1) := by decide +kernel
theorem dX10_image_4 : decode cX10_image 4 = .ok (.invokestatic 68, 3) := by decide +kernel
theorem dX10_image_7 : decode cX10_image 7 = .ok (.ifCond .ne 10, 3) := by decide +kernel
theorem dX10_image_10 : decode cX10_image 10 = .ok (.aload_n 0, 1) := by decide +kernel
theorem dX10_image_11 : decode cX10_image 11 = .ok (.bipush (-2), 2) := by decide +kernel
theorem dX10_image_13 : decode cX10_image 13 = .ok (.invokevirtual 80, 3) := by decide +kernel
theorem dX10_image_16 : decode cX10_image 16 = .ok (.ireturn, 1) := by decide +kernel
theorem dX10_image_17 : decode cX10_image 17 = .ok (.iconst 0, 1) := by decide +kernel
theorem dX10_image_18 : decode cX10_image 18 = .ok (.istore_n 2, 1) := by decide +kernel
theorem dX10_image_19 : decode cX10_image 19 = .ok (.iload_n 2, 1) := by decide +kernel
theorem dX10_image_20 : decode cX10_image 20 = .ok (.sipush 484, 3) := by decide +kernel
theorem dX10_image_23 : decode cX10_image 23 = .ok (.if_icmp .ge 27, 3) := by decide +kernel
theorem dX10_image_26 : decode cX10_image 26 = .ok (.aload_n 0, 1) := by decide +kernel
theorem dX10_image_27 : decode cX10_image 27 = .ok (.getfield 13, 3) := by decide +kernel
theorem dX10_image_30 : decode cX10_image 30 = .ok (.sipush 484, 3) := by decide +kernel
theorem dX10_image_33 : decode cX10_image 33 = .ok (.iload_n 1, 1) := by decide +kernel
theorem dX10_image_34 : decode cX10_image 34 = .ok (.imul, 1) := by decide +kernel
theorem dX10_image_35 : decode cX10_image 35 = .ok (.iload_n 2, 1) := by decide +kernel
theorem dX10_image_36 : decode cX10_image 36 = .ok (.iadd, 1) := by decide +kernel
theorem dX10_image_37 : decode cX10_image 37 = .ok (.aload_n 0, 1) := by decide +kernel
theorem dX10_image_38 : decode cX10_image 38 = .ok (.getfield 7, 3) := by decide +kernel
theorem dX10_image_41 : decode cX10_image 41 = .ok (.iload_n 2, 1) := by decide +kernel
theorem dX10_image_42 : decode cX10_image 42 = .ok (.iaload, 1) := by decide +kernel
theorem dX10_image_43 : decode cX10_image 43 = .ok (.iastore, 1) := by decide +kernel
theorem dX10_image_44 : decode cX10_image 44 = .ok (.iinc 2 1, 3) := by decide +kernel
theorem dX10_image_47 : decode cX10_image 47 = .ok (.goto (-28), 3) := by decide +kernel
theorem dX10_image_50 : decode cX10_image 50 = .ok (.aload_n 0, 1) := by decide +kernel
theorem dX10_image_51 : decode cX10_image 51 = .ok (.getfield 16, 3) := by decide +kernel
theorem dX10_image_54 : decode cX10_image 54 = .ok (.iload_n 1, 1) := by decide +kernel
theorem dX10_image_55 : decode cX10_image 55 = .ok (.iconst 1, 1) := by decide +kernel
theorem dX10_image_56 : decode cX10_image 56 = .ok (.bastore, 1) := by decide +kernel
theorem dX10_image_57 : decode cX10_image 57 = .ok (.iconst 1, 1) := by decide +kernel
theorem dX10_image_58 : decode cX10_image 58 = .ok (.ireturn, 1) := by decide +kernel
theorem dX10_from_0 : decode cX10_from 0 = .ok (.iload_n 1, 1) := by decide +kernel
theorem dX10_from_1 : decode cX10_from 1 = .ok (.i2l, 1) := by decide +kernel
theorem dX10_from_2 : decode cX10_from 2 = .ok (.lconst 0, 1) := by decide +kernel
theorem dX10_from_3 : decode cX10_from 3 = .ok (.lconst 1, 1) := by decide +kernel
theorem dX10_from_4 : decode cX10_from 4 = .ok (.invokestatic 68, 3) := by decide +kernel
theorem dX10_from_7 : decode cX10_from 7 = .ok (.ifCond .ne 10, 3) := by decide +kernel
theorem dX10_from_10 : decode cX10_from 10 = .ok (.aload_n 0, 1) := by decide +kernel
theorem dX10_from_11 : decode cX10_from 11 = .ok (.bipush (-2), 2) := by decide +kernel
theorem dX10_from_13 : decode cX10_from 13 = .ok (.invokevirtual 80, 3) := by decide +kernel
theorem dX10_from_16 : decode cX10_from 16 = .ok (.ireturn, 1) := by decide +kernel
theorem dX10_from_17 : decode cX10_from 17 = .ok (.aload_n 0, 1) := by decide +kernel
theorem dX10_from_18 : decode cX10_from 18 = .ok (.getfield 16, 3) := by decide +kernel
theorem dX10_from_21 : decode cX10_from 21 = .ok (.iload_n 1, 1) := by decide +kernel
theorem dX10_from_22 : decode cX10_from 22 = .ok (.baload, 1) := by decide +kernel
theorem dX10_from_23 : decode cX10_from 23 = .ok (.ifCond .ne 10, 3) := by decide +kernel
theorem dX10_from_26 : decode cX10_from 26 = .ok (.aload_n 0, 1) := by decide +kernel
theorem dX10_from_27 : decode cX10_from 27 = .ok (.bipush (-3), 2) := by decide +kernel
theorem dX10_from_29 : decode cX10_from 29 = .ok (.invokevirtual 128, 3) := by decide +kernel
theorem dX10_from_32 : decode cX10_from 32 = .ok (.ireturn, 1) := by decide +kernel
theorem dX10_from_33 : decode cX10_from 33 = .ok (.iconst 0, 1) := by decide +kernel
theorem dX10_from_34 : decode cX10_from 34 = .ok (.istore_n 2, 1) := by decide +kernel
theorem dX10_from_35 : decode cX10_from 35 = .ok (.iload_n 2, 1) := by decide +kernel
theorem dX10_from_36 : decode cX10_from 36 = .ok (.sipush 484, 3) := by decide +kernel
theorem dX10_from_39 : decode cX10_from 39 = .ok (.if_icmp .ge 27, 3) := by decide +kernel
theorem dX10_from_42 : decode cX10_from 42 = .ok (.aload_n 0, 1) := by decide +kernel
theorem dX10_from_43 : decode cX10_from 43 = .ok (.getfield 7, 3) := by decide +kernel
theorem dX10_from_46 : decode cX10_from 46 = .ok (.iload_n 2, 1) := by decide +kernel
theorem dX10_from_47 : decode cX10_from 47 = .ok (.aload_n 0, 1) := by decide +kernel
theorem dX10_from_48 : decode cX10_from 48 = .ok (.getfield 13, 3) := by decide +kernel
theorem dX10_from_51 : decode cX10_from 51 = .ok (.sipush 484, 3) := by decide +kernel
theorem dX10_from_54 : decode cX10_from 54 = .ok (.iload_n 1, 1) := by decide +kernel
theorem dX10_from_55 : decode cX10_from 55 = .ok (.imul, 1) := by decide +kernel
theorem dX10_from_56 : decode cX10_from 56 = .ok (.iload_n 2, 1) := by decide +kernel
theorem dX10_from_57 : decode cX10_from 57 = .ok (.iadd, 1) := by decide +kernel
theorem dX10_from_58 : decode cX10_from 58 = .ok (.iaload, 1) := by decide +kernel
theorem dX10_from_59 : decode cX10_from 59 = .ok (.iastore, 1) := by decide +kernel
theorem dX10_from_60 : decode cX10_from 60 = .ok (.iinc 2 1, 3) := by decide +kernel
theorem dX10_from_63 : decode cX10_from 63 = .ok (.goto (-28), 3) := by decide +kernel
theorem dX10_from_66 : decode cX10_from 66 = .ok (.iconst 1, 1) := by decide +kernel
theorem dX10_from_67 : decode cX10_from 67 = .ok (.ireturn, 1) := by decide +kernel
theorem dX10_status_0 : decode cX10_status 0 = .ok (.iload_n 1, 1) := by decide +kernel
theorem dX10_status_1 : decode cX10_status 1 = .ok (.i2l, 1) := by decide +kernel
theorem dX10_status_2 : decode cX10_status 2 = .ok (.lconst 0, 1) := by decide +kernel
theorem dX10_status_3 : decode cX10_status 3 = .ok (.ldc2_w 76, 3) := by decide +kernel
theorem dX10_status_6 : decode cX10_status 6 = .ok (.invokestatic 68, 3) := by decide +kernel
theorem dX10_status_9 : decode cX10_status 9 = .ok (.ifCond .eq 12, 3) := by decide +kernel
theorem dX10_status_12 : decode cX10_status 12 = .ok (.aload_n 0, 1) := by decide +kernel
theorem dX10_status_13 : decode cX10_status 13 = .ok (.getfield 20, 3) := by decide +kernel
theorem dX10_status_16 : decode cX10_status 16 = .ok (.iload_n 1, 1) := by decide +kernel
theorem dX10_status_17 : decode cX10_status 17 = .ok (.iaload, 1) := by decide +kernel
theorem dX10_status_18 : decode cX10_status 18 = .ok (.goto 8, 3) := by decide +kernel
theorem dX10_status_21 : decode cX10_status 21 = .ok (.aload_n 0, 1) := by decide +kernel
theorem dX10_status_22 : decode cX10_status 22 = .ok (.iconst (-1), 1) := by decide +kernel
theorem dX10_status_23 : decode cX10_status 23 = .ok (.invokevirtual 80, 3) := by decide +kernel
theorem dX10_status_26 : decode cX10_status 26 = .ok (.ireturn, 1) := by decide +kernel
theorem dX10_counted_0 : decode cX10_counted 0 = .ok (.iload_n 1, 1) := by decide +kernel
theorem dX10_counted_1 : decode cX10_counted 1 = .ok (.ifCond .ne 10, 3) := by decide +kernel
theorem dX10_counted_4 : decode cX10_counted 4 = .ok (.aload_n 0, 1) := by decide +kernel
theorem dX10_counted_5 : decode cX10_counted 5 = .ok (.invokevirtual 64, 3) := by decide +kernel
theorem dX10_counted_8 : decode cX10_counted 8 = .ok (.goto 83, 3) := by decide +kernel
theorem dX10_counted_11 : decode cX10_counted 11 = .ok (.iload_n 1, 1) := by decide +kernel
theorem dX10_counted_12 : decode cX10_counted 12 = .ok (.iconst 1, 1) := by decide +kernel
theorem dX10_counted_13 : decode cX10_counted 13 = .ok (.if_icmp .ne 14, 3) := by decide +kernel
theorem dX10_counted_16 : decode cX10_counted 16 = .ok (.aload_n 0, 1) := by decide +kernel
theorem dX10_counted_17 : decode cX10_counted 17 = .ok (.getfield 7, 3) := by decide +kernel
theorem dX10_counted_20 : decode cX10_counted 20 = .ok (.sipush 158, 3) := by decide +kernel
theorem dX10_counted_23 : decode cX10_counted 23 = .ok (.iaload, 1) := by decide +kernel
theorem dX10_counted_24 : decode cX10_counted 24 = .ok (.goto 67, 3) := by decide +kernel
theorem dX10_counted_27 : decode cX10_counted 27 = .ok (.iload_n 1, 1) := by decide +kernel
theorem dX10_counted_28 : decode cX10_counted 28 = .ok (.iconst 2, 1) := by decide +kernel
theorem dX10_counted_29 : decode cX10_counted 29 = .ok (.if_icmp .ne 14, 3) := by decide +kernel
theorem dX10_counted_32 : decode cX10_counted 32 = .ok (.aload_n 0, 1) := by decide +kernel
theorem dX10_counted_33 : decode cX10_counted 33 = .ok (.getfield 7, 3) := by decide +kernel
theorem dX10_counted_36 : decode cX10_counted 36 = .ok (.sipush 159, 3) := by decide +kernel
theorem dX10_counted_39 : decode cX10_counted 39 = .ok (.iaload, 1) := by decide +kernel
theorem dX10_counted_40 : decode cX10_counted 40 = .ok (.goto 51, 3) := by decide +kernel
theorem dX10_counted_43 : decode cX10_counted 43 = .ok (.iload_n 1, 1) := by decide +kernel
theorem dX10_counted_44 : decode cX10_counted 44 = .ok (.iconst 3, 1) := by decide +kernel
theorem dX10_counted_45 : decode cX10_counted 45 = .ok (.if_icmp .ne 14, 3) := by decide +kernel
theorem dX10_counted_48 : decode cX10_counted 48 = .ok (.aload_n 0, 1) := by decide +kernel
theorem dX10_counted_49 : decode cX10_counted 49 = .ok (.getfield 7, 3) := by decide +kernel
theorem dX10_counted_52 : decode cX10_counted 52 = .ok (.sipush 160, 3) := by decide +kernel
theorem dX10_counted_55 : decode cX10_counted 55 = .ok (.iaload, 1) := by decide +kernel
theorem dX10_counted_56 : decode cX10_counted 56 = .ok (.goto 35, 3) := by decide +kernel
theorem dX10_counted_59 : decode cX10_counted 59 = .ok (.iload_n 1, 1) := by decide +kernel
theorem dX10_counted_60 : decode cX10_counted 60 = .ok (.iconst 4, 1) := by decide +kernel
theorem dX10_counted_61 : decode cX10_counted 61 = .ok (.if_icmp .ne 10, 3) := by decide +kernel
theorem dX10_counted_64 : decode cX10_counted 64 = .ok (.aload_n 0, 1) := by decide +kernel
