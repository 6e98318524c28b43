/-! ===== what stands at each place of the code ===== -/
theorem dX10_need_27 : decode cX10_need 27 = .ok (.iload 4, 2) := by decide +kernel
theorem dX10_need_29 : decode cX10_need 29 = .ok (.i2l, 1) := by decide +kernel
theorem dX10_need_30 : decode cX10_need 30 = .ok (.aload_n 0, 1) := by decide +kernel
theorem dX10_need_31 : decode cX10_need 31 = .ok (.invokevirtual 101, 3) := by decide +kernel
theorem dX10_need_34 : decode cX10_need 34 = .ok (.i2l, 1) := by decide +kernel
theorem dX10_need_35 : decode cX10_need 35 = .ok (.ldc2_w 72, 3) := by decide +kernel
theorem dX10_need_38 : decode cX10_need 38 = .ok (.invokestatic 68, 3) := by decide +kernel
theorem dX10_need_41 : decode cX10_need 41 = .ok (.ifCond .ne 10, 3) := by decide +kernel
theorem dX10_need_44 : decode cX10_need 44 = .ok (.aload_n 0, 1) := by decide +kernel
theorem dX10_need_45 : decode cX10_need 45 = .ok (.bipush (-2), 2) := by decide +kernel
theorem dX10_need_47 : decode cX10_need 47 = .ok (.invokevirtual 80, 3) := by decide +kernel
theorem dX10_need_50 : decode cX10_need 50 = .ok (.ireturn, 1) := by decide +kernel
theorem dX10_need_51 : decode cX10_need 51 = .ok (.aload_n 0, 1) := by decide +kernel
theorem dX10_need_52 : decode cX10_need 52 = .ok (.getfield 7, 3) := by decide +kernel
theorem dX10_need_55 : decode cX10_need 55 = .ok (.sipush 159, 3) := by decide +kernel
theorem dX10_need_58 : decode cX10_need 58 = .ok (.iaload, 1) := by decide +kernel
theorem dX10_need_59 : decode cX10_need 59 = .ok (.istore 5, 2) := by decide +kernel
theorem dX10_need_61 : decode cX10_need 61 = .ok (.iload 5, 2) := by decide +kernel
theorem dX10_need_63 : decode cX10_need 63 = .ok (.iconst 5, 1) := by decide +kernel
theorem dX10_need_64 : decode cX10_need 64 = .ok (.if_icmp .ne 8, 3) := by decide +kernel
theorem dX10_need_67 : decode cX10_need 67 = .ok (.aload_n 0, 1) := by decide +kernel
theorem dX10_need_68 : decode cX10_need 68 = .ok (.invokevirtual 98, 3) := by decide +kernel
theorem dX10_need_71 : decode cX10_need 71 = .ok (.ireturn, 1) := by decide +kernel
theorem dX10_need_72 : decode cX10_need 72 = .ok (.aload_n 0, 1) := by decide +kernel
theorem dX10_need_73 : decode cX10_need 73 = .ok (.getfield 7, 3) := by decide +kernel
theorem dX10_need_76 : decode cX10_need 76 = .ok (.iload 5, 2) := by decide +kernel
theorem dX10_need_78 : decode cX10_need 78 = .ok (.iload_n 1, 1) := by decide +kernel
theorem dX10_need_79 : decode cX10_need 79 = .ok (.iload_n 2, 1) := by decide +kernel
theorem dX10_need_80 : decode cX10_need 80 = .ok (.iload_n 3, 1) := by decide +kernel
theorem dX10_need_81 : decode cX10_need 81 = .ok (.iload 4, 2) := by decide +kernel
theorem dX10_need_83 : decode cX10_need 83 = .ok (.invokestatic 108, 3) := by decide +kernel
theorem dX10_need_86 : decode cX10_need 86 = .ok (.aload_n 0, 1) := by decide +kernel
theorem dX10_need_87 : decode cX10_need 87 = .ok (.getfield 7, 3) := by decide +kernel
theorem dX10_need_90 : decode cX10_need 90 = .ok (.sipush 159, 3) := by decide +kernel
theorem dX10_need_93 : decode cX10_need 93 = .ok (.dup2, 1) := by decide +kernel
theorem dX10_need_94 : decode cX10_need 94 = .ok (.iaload, 1) := by decide +kernel
theorem dX10_need_95 : decode cX10_need 95 = .ok (.iconst 1, 1) := by decide +kernel
theorem dX10_need_96 : decode cX10_need 96 = .ok (.iadd, 1) := by decide +kernel
theorem dX10_need_97 : decode cX10_need 97 = .ok (.iastore, 1) := by decide +kernel
theorem dX10_need_98 : decode cX10_need 98 = .ok (.iload 5, 2) := by decide +kernel
theorem dX10_need_100 : decode cX10_need 100 = .ok (.ireturn, 1) := by decide +kernel
theorem dX10_contented_0 : decode cX10_contented 0 = .ok (.aload_n 0, 1) := by decide +kernel
theorem dX10_contented_1 : decode cX10_contented 1 = .ok (.getfield 7, 3) := by decide +kernel
theorem dX10_contented_4 : decode cX10_contented 4 = .ok (.sipush 159, 3) := by decide +kernel
theorem dX10_contented_7 : decode cX10_contented 7 = .ok (.iaload, 1) := by decide +kernel
theorem dX10_contented_8 : decode cX10_contented 8 = .ok (.istore_n 1, 1) := by decide +kernel
theorem dX10_contented_9 : decode cX10_contented 9 = .ok (.aload_n 0, 1) := by decide +kernel
theorem dX10_contented_10 : decode cX10_contented 10 = .ok (.getfield 7, 3) := by decide +kernel
theorem dX10_contented_13 : decode cX10_contented 13 = .ok (.sipush 159, 3) := by decide +kernel
theorem dX10_contented_16 : decode cX10_contented 16 = .ok (.iconst 0, 1) := by decide +kernel
theorem dX10_contented_17 : decode cX10_contented 17 = .ok (.iastore, 1) := by decide +kernel
theorem dX10_contented_18 : decode cX10_contented 18 = .ok (.iload_n 1, 1) := by decide +kernel
theorem dX10_contented_19 : decode cX10_contented 19 = .ok (.ireturn, 1) := by decide +kernel
theorem dX10_notBelow0_0 : decode cX10_notBelow0 0 = .ok (.iload_n 0, 1) := by decide +kernel
theorem dX10_notBelow0_1 : decode cX10_notBelow0 1 = .ok (.ifCond .ge 7, 3) := by decide +kernel
theorem dX10_notBelow0_4 : decode cX10_notBelow0 4 = .ok (.iconst 0, 1) := by decide +kernel
theorem dX10_notBelow0_5 : decode cX10_notBelow0 5 = .ok (.goto 4, 3) := by decide +kernel
theorem dX10_notBelow0_8 : decode cX10_notBelow0 8 = .ok (.iload_n 0, 1) := by decide +kernel
theorem dX10_notBelow0_9 : decode cX10_notBelow0 9 = .ok (.ireturn, 1) := by decide +kernel
theorem dX10_valueOf_0 : decode cX10_valueOf 0 = .ok (.aload_n 0, 1) := by decide +kernel
theorem dX10_valueOf_1 : decode cX10_valueOf 1 = .ok (.iload_n 1, 1) := by decide +kernel
theorem dX10_valueOf_2 : decode cX10_valueOf 2 = .ok (.iconst 2, 1) := by decide +kernel
theorem dX10_valueOf_3 : decode cX10_valueOf 3 = .ok (.invokevirtual 112, 3) := by decide +kernel
theorem dX10_valueOf_6 : decode cX10_valueOf 6 = .ok (.iconst (-1), 1) := by decide +kernel
theorem dX10_valueOf_7 : decode cX10_valueOf 7 = .ok (.if_icmp .ne 5, 3) := by decide +kernel
theorem dX10_valueOf_10 : decode cX10_valueOf 10 = .ok (.iconst 0, 1) := by decide +kernel
theorem dX10_valueOf_11 : decode cX10_valueOf 11 = .ok (.ireturn, 1) := by decide +kernel
theorem dX10_valueOf_12 : decode cX10_valueOf 12 = .ok (.aload_n 0, 1) := by decide +kernel
theorem dX10_valueOf_13 : decode cX10_valueOf 13 = .ok (.iload_n 1, 1) := by decide +kernel
theorem dX10_valueOf_14 : decode cX10_valueOf 14 = .ok (.iconst 4, 1) := by decide +kernel
theorem dX10_valueOf_15 : decode cX10_valueOf 15 = .ok (.invokevirtual 112, 3) := by decide +kernel
theorem dX10_valueOf_18 : decode cX10_valueOf 18 = .ok (.istore_n 3, 1) := by decide +kernel
theorem dX10_valueOf_19 : decode cX10_valueOf 19 = .ok (.aload_n 0, 1) := by decide +kernel
theorem dX10_valueOf_20 : decode cX10_valueOf 20 = .ok (.iload_n 1, 1) := by decide +kernel
theorem dX10_valueOf_21 : decode cX10_valueOf 21 = .ok (.iconst 5, 1) := by decide +kernel
theorem dX10_valueOf_22 : decode cX10_valueOf 22 = .ok (.invokevirtual 112, 3) := by decide +kernel
theorem dX10_valueOf_25 : decode cX10_valueOf 25 = .ok (.istore 4, 2) := by decide +kernel
theorem dX10_valueOf_27 : decode cX10_valueOf 27 = .ok (.iload_n 2, 1) := by decide +kernel
theorem dX10_valueOf_28 : decode cX10_valueOf 28 = .ok (.iload 4, 2) := by decide +kernel
theorem dX10_valueOf_30 : decode cX10_valueOf 30 = .ok (.if_icmp .gt 7, 3) := by decide +kernel
theorem dX10_valueOf_33 : decode cX10_valueOf 33 = .ok (.iload_n 3, 1) := by decide +kernel
theorem dX10_valueOf_34 : decode cX10_valueOf 34 = .ok (.goto 4, 3) := by decide +kernel
theorem dX10_valueOf_37 : decode cX10_valueOf 37 = .ok (.iconst 0, 1) := by decide +kernel
theorem dX10_valueOf_38 : decode cX10_valueOf 38 = .ok (.istore 5, 2) := by decide +kernel
theorem dX10_valueOf_40 : decode cX10_valueOf 40 = .ok (.iload_n 2, 1) := by decide +kernel
theorem dX10_valueOf_41 : decode cX10_valueOf 41 = .ok (.aload_n 0, 1) := by decide +kernel
theorem dX10_valueOf_42 : decode cX10_valueOf 42 = .ok (.iload_n 1, 1) := by decide +kernel
theorem dX10_valueOf_43 : decode cX10_valueOf 43 = .ok (.bipush 6, 2) := by decide +kernel
theorem dX10_valueOf_45 : decode cX10_valueOf 45 = .ok (.invokevirtual 112, 3) := by decide +kernel
theorem dX10_valueOf_48 : decode cX10_valueOf 48 = .ok (.isub, 1) := by decide +kernel
theorem dX10_valueOf_49 : decode cX10_valueOf 49 = .ok (.invokestatic 116, 3) := by decide +kernel
theorem dX10_valueOf_52 : decode cX10_valueOf 52 = .ok (.istore 6, 2) := by decide +kernel
theorem dX10_valueOf_54 : decode cX10_valueOf 54 = .ok (.aload_n 0, 1) := by decide +kernel
theorem dX10_valueOf_55 : decode cX10_valueOf 55 = .ok (.iload_n 1, 1) := by decide +kernel
theorem dX10_valueOf_56 : decode cX10_valueOf 56 = .ok (.iconst 0, 1) := by decide +kernel
theorem dX10_valueOf_57 : decode cX10_valueOf 57 = .ok (.invokevirtual 112, 3) := by decide +kernel
theorem dX10_valueOf_60 : decode cX10_valueOf 60 = .ok (.tableswitch 84 1 4 #[32, 41, 61, 73], 32) := by decide +kernel
theorem dX10_valueOf_92 : decode cX10_valueOf 92 = .ok (.iload 5, 2) := by decide +kernel
theorem dX10_valueOf_94 : decode cX10_valueOf 94 = .ok (.iload 6, 2) := by decide +kernel
theorem dX10_valueOf_96 : decode cX10_valueOf 96 = .ok (.isub, 1) := by decide +kernel
theorem dX10_valueOf_97 : decode cX10_valueOf 97 = .ok (.invokestatic 116, 3) := by decide +kernel
theorem dX10_valueOf_100 : decode cX10_valueOf 100 = .ok (.ireturn, 1) := by decide +kernel
theorem dX10_valueOf_101 : decode cX10_valueOf 101 = .ok (.iload_n 2, 1) := by decide +kernel
theorem dX10_valueOf_102 : decode cX10_valueOf 102 = .ok (.iload 4, 2) := by decide +kernel
theorem dX10_valueOf_104 : decode cX10_valueOf 104 = .ok (.if_icmp .le 15, 3) := by decide +kernel
theorem dX10_valueOf_107 : decode cX10_valueOf 107 = .ok (.iload_n 3, 1) := by decide +kernel
theorem dX10_valueOf_108 : decode cX10_valueOf 108 = .ok (.iload_n 2, 1) := by decide +kernel
theorem dX10_valueOf_109 : decode cX10_valueOf 109 = .ok (.iload 4, 2) := by decide +kernel
theorem dX10_valueOf_111 : decode cX10_valueOf 111 = .ok (.isub, 1) := by decide +kernel
theorem dX10_valueOf_112 : decode cX10_valueOf 112 = .ok (.bipush 10, 2) := by decide +kernel
theorem dX10_valueOf_114 : decode cX10_valueOf 114 = .ok (.idiv, 1) := by decide +kernel
theorem dX10_valueOf_115 : decode cX10_valueOf 115 = .ok (.iadd, 1) := by decide +kernel
theorem dX10_valueOf_116 : decode cX10_valueOf 116 = .ok (.goto 4, 3) := by decide +kernel
theorem dX10_valueOf_119 : decode cX10_valueOf 119 = .ok (.iload_n 3, 1) := by decide +kernel
theorem dX10_valueOf_120 : decode cX10_valueOf 120 = .ok (.ireturn, 1) := by decide +kernel
theorem dX10_valueOf_121 : decode cX10_valueOf 121 = .ok (.iload_n 2, 1) := by decide +kernel
theorem dX10_valueOf_122 : decode cX10_valueOf 122 = .ok (.iload 4, 2) := by decide +kernel
theorem dX10_valueOf_124 : decode cX10_valueOf 124 = .ok (.if_icmp .ge 7, 3) := by decide +kernel
theorem dX10_valueOf_127 : decode cX10_valueOf 127 = .ok (.iconst 0, 1) := by decide +kernel
theorem dX10_valueOf_128 : decode cX10_valueOf 128 = .ok (.goto 4, 3) := by decide +kernel
theorem dX10_valueOf_131 : decode cX10_valueOf 131 = .ok (.iload_n 3, 1) := by decide +kernel
theorem dX10_valueOf_132 : decode cX10_valueOf 132 = .ok (.ireturn, 1) := by decide +kernel
theorem dX10_valueOf_133 : decode cX10_valueOf 133 = .ok (.iload 5, 2) := by decide +kernel
theorem dX10_valueOf_135 : decode cX10_valueOf 135 = .ok (.iconst 2, 1) := by decide +kernel
theorem dX10_valueOf_136 : decode cX10_valueOf 136 = .ok (.iload 6, 2) := by decide +kernel
theorem dX10_valueOf_138 : decode cX10_valueOf 138 = .ok (.imul, 1) := by decide +kernel
theorem dX10_valueOf_139 : decode cX10_valueOf 139 = .ok (.isub, 1) := by decide +kernel
theorem dX10_valueOf_140 : decode cX10_valueOf 140 = .ok (.invokestatic 116, 3) := by decide +kernel
theorem dX10_valueOf_143 : decode cX10_valueOf 143 = .ok (.ireturn, 1) := by decide +kernel
theorem dX10_valueOf_144 : decode cX10_valueOf 144 = .ok (.iload 5, 2) := by decide +kernel
theorem dX10_valueOf_146 : decode cX10_valueOf 146 = .ok (.ireturn, 1) := by decide +kernel
theorem dX10_valueNow_0 : decode cX10_valueNow 0 = .ok (.aload_n 0, 1) := by decide +kernel
theorem dX10_valueNow_1 : decode cX10_valueNow 1 = .ok (.iload_n 1, 1) := by decide +kernel
theorem dX10_valueNow_2 : decode cX10_valueNow 2 = .ok (.aload_n 0, 1) := by decide +kernel
theorem dX10_valueNow_3 : decode cX10_valueNow 3 = .ok (.invokevirtual 101, 3) := by decide +kernel
theorem dX10_valueNow_6 : decode cX10_valueNow 6 = .ok (.invokevirtual 119, 3) := by decide +kernel
theorem dX10_valueNow_9 : decode cX10_valueNow 9 = .ok (.ireturn, 1) := by decide +kernel
theorem dX10_value_0 : decode cX10_value 0 = .ok (.aload_n 0, 1) := by decide +kernel
theorem dX10_value_1 : decode cX10_value 1 = .ok (.iload_n 1, 1) := by decide +kernel
theorem dX10_value_2 : decode cX10_value 2 = .ok (.invokevirtual 122, 3) := by decide +kernel
theorem dX10_value_5 : decode cX10_value 5 = .ok (.ifCond .eq 19, 3) := by decide +kernel
theorem dX10_value_8 : decode cX10_value 8 = .ok (.iload_n 2, 1) := by decide +kernel
theorem dX10_value_9 : decode cX10_value 9 = .ok (.invokestatic 95, 3) := by decide +kernel
theorem dX10_value_12 : decode cX10_value 12 = .ok (.ifCond .eq 12, 3) := by decide +kernel
theorem dX10_value_15 : decode cX10_value 15 = .ok (.aload_n 0, 1) := by decide +kernel
theorem dX10_value_16 : decode cX10_value 16 = .ok (.iload_n 1, 1) := by decide +kernel
theorem dX10_value_17 : decode cX10_value 17 = .ok (.iload_n 2, 1) := by decide +kernel
theorem dX10_value_18 : decode cX10_value 18 = .ok (.invokevirtual 119, 3) := by decide +kernel
theorem dX10_value_21 : decode cX10_value 21 = .ok (.goto 9, 3) := by decide +kernel
theorem dX10_value_24 : decode cX10_value 24 = .ok (.aload_n 0, 1) := by decide +kernel
theorem dX10_value_25 : decode cX10_value 25 = .ok (.bipush (-2), 2) := by decide +kernel
theorem dX10_value_27 : decode cX10_value 27 = .ok (.invokevirtual 80, 3) := by decide +kernel
theorem dX10_value_30 : decode cX10_value 30 = .ok (.ireturn, 1) := by decide +kernel
theorem dX10_of_0 : decode cX10_of 0 = .ok (.aload_n 0, 1) := by decide +kernel
theorem dX10_of_1 : decode cX10_of 1 = .ok (.iload_n 1, 1) := by decide +kernel
theorem dX10_of_2 : decode cX10_of 2 = .ok (.invokevirtual 122, 3) := by decide +kernel
theorem dX10_of_5 : decode cX10_of 5 = .ok (.ifCond .eq 12, 3) := by decide +kernel
theorem dX10_of_8 : decode cX10_of 8 = .ok (.aload_n 0, 1) := by decide +kernel
theorem dX10_of_9 : decode cX10_of 9 = .ok (.iload_n 1, 1) := by decide +kernel
theorem dX10_of_10 : decode cX10_of 10 = .ok (.iconst 2, 1) := by decide +kernel
theorem dX10_of_11 : decode cX10_of 11 = .ok (.invokevirtual 112, 3) := by decide +kernel
theorem dX10_of_14 : decode cX10_of 14 = .ok (.goto 9, 3) := by decide +kernel
theorem dX10_of_17 : decode cX10_of 17 = .ok (.aload_n 0, 1) := by decide +kernel
theorem dX10_of_18 : decode cX10_of 18 = .ok (.bipush (-2), 2) := by decide +kernel
theorem dX10_of_20 : decode cX10_of 20 = .ok (.invokevirtual 80, 3) := by decide +kernel
theorem dX10_of_23 : decode cX10_of 23 = .ok (.ireturn, 1) := by decide +kernel
theorem dX10_lose_0 : decode cX10_lose 0 = .ok (.aload_n 0, 1) := by decide +kernel
theorem dX10_lose_1 : decode cX10_lose 1 = .ok (.getfield 7, 3) := by decide +kernel
theorem dX10_lose_4 : decode cX10_lose 4 = .ok (.bipush 14, 2) := by decide +kernel
theorem dX10_lose_6 : decode cX10_lose 6 = .ok (.bipush 7, 2) := by decide +kernel
theorem dX10_lose_8 : decode cX10_lose 8 = .ok (.iload_n 1, 1) := by decide +kernel
theorem dX10_lose_9 : decode cX10_lose 9 = .ok (.imul, 1) := by decide +kernel
theorem dX10_lose_10 : decode cX10_lose 10 = .ok (.iadd, 1) := by decide +kernel
theorem dX10_lose_11 : decode cX10_lose 11 = .ok (.iconst 2, 1) := by decide +kernel
theorem dX10_lose_12 : decode cX10_lose 12 = .ok (.iadd, 1) := by decide +kernel
theorem dX10_lose_13 : decode cX10_lose 13 = .ok (.iconst (-1), 1) := by decide +kernel
theorem dX10_lose_14 : decode cX10_lose 14 = .ok (.iastore, 1) := by decide +kernel
theorem dX10_lose_15 : decode cX10_lose 15 = .ok (.return_, 1) := by decide +kernel
theorem dX10_pass_0 : decode cX10_pass 0 = .ok (.aload_n 0, 1) := by decide +kernel
theorem dX10_pass_1 : decode cX10_pass 1 = .ok (.iload_n 1, 1) := by decide +kernel
theorem dX10_pass_2 : decode cX10_pass 2 = .ok (.invokevirtual 122, 3) := by decide +kernel
theorem dX10_pass_5 : decode cX10_pass 5 = .ok (.ifCond .eq 21, 3) := by decide +kernel
theorem dX10_pass_8 : decode cX10_pass 8 = .ok (.aload_n 0, 1) := by decide +kernel
theorem dX10_pass_9 : decode cX10_pass 9 = .ok (.iload_n 2, 1) := by decide +kernel
theorem dX10_pass_10 : decode cX10_pass 10 = .ok (.invokevirtual 84, 3) := by decide +kernel
theorem dX10_pass_13 : decode cX10_pass 13 = .ok (.ifCond .eq 13, 3) := by decide +kernel
theorem dX10_pass_16 : decode cX10_pass 16 = .ok (.aload_n 0, 1) := by decide +kernel
theorem dX10_pass_17 : decode cX10_pass 17 = .ok (.iload_n 1, 1) := by decide +kernel
theorem dX10_pass_18 : decode cX10_pass 18 = .ok (.iconst 2, 1) := by decide +kernel
theorem dX10_pass_19 : decode cX10_pass 19 = .ok (.invokevirtual 112, 3) := by decide +kernel
theorem dX10_pass_22 : decode cX10_pass 22 = .ok (.iload_n 2, 1) := by decide +kernel
theorem dX10_pass_23 : decode cX10_pass 23 = .ok (.if_icmp .ne 10, 3) := by decide +kernel
theorem dX10_pass_26 : decode cX10_pass 26 = .ok (.aload_n 0, 1) := by decide +kernel
theorem dX10_pass_27 : decode cX10_pass 27 = .ok (.bipush (-10), 2) := by decide +kernel
theorem dX10_pass_29 : decode cX10_pass 29 = .ok (.invokevirtual 80, 3) := by decide +kernel
theorem dX10_pass_32 : decode cX10_pass 32 = .ok (.ireturn, 1) := by decide +kernel
theorem dX10_pass_33 : decode cX10_pass 33 = .ok (.aload_n 0, 1) := by decide +kernel
theorem dX10_pass_34 : decode cX10_pass 34 = .ok (.iload_n 1, 1) := by decide +kernel
theorem dX10_pass_35 : decode cX10_pass 35 = .ok (.invokevirtual 125, 3) := by decide +kernel
theorem dX10_pass_38 : decode cX10_pass 38 = .ok (.ifCond .eq 13, 3) := by decide +kernel
theorem dX10_pass_41 : decode cX10_pass 41 = .ok (.aload_n 0, 1) := by decide +kernel
theorem dX10_pass_42 : decode cX10_pass 42 = .ok (.iload_n 1, 1) := by decide +kernel
theorem dX10_pass_43 : decode cX10_pass 43 = .ok (.iconst 0, 1) := by decide +kernel
theorem dX10_pass_44 : decode cX10_pass 44 = .ok (.invokevirtual 112, 3) := by decide +kernel
theorem dX10_pass_47 : decode cX10_pass 47 = .ok (.iconst 2, 1) := by decide +kernel
theorem dX10_pass_48 : decode cX10_pass 48 = .ok (.if_icmp .ne 10, 3) := by decide +kernel
theorem dX10_pass_51 : decode cX10_pass 51 = .ok (.aload_n 0, 1) := by decide +kernel
theorem dX10_pass_52 : decode cX10_pass 52 = .ok (.bipush (-20), 2) := by decide +kernel
theorem dX10_pass_54 : decode cX10_pass 54 = .ok (.invokevirtual 128, 3) := by decide +kernel
theorem dX10_pass_57 : decode cX10_pass 57 = .ok (.ireturn, 1) := by decide +kernel
theorem dX10_pass_58 : decode cX10_pass 58 = .ok (.aload_n 0, 1) := by decide +kernel
theorem dX10_pass_59 : decode cX10_pass 59 = .ok (.iload_n 1, 1) := by decide +kernel
theorem dX10_pass_60 : decode cX10_pass 60 = .ok (.iconst 1, 1) := by decide +kernel
theorem dX10_pass_61 : decode cX10_pass 61 = .ok (.invokevirtual 112, 3) := by decide +kernel
theorem dX10_pass_64 : decode cX10_pass 64 = .ok (.iload_n 2, 1) := by decide +kernel
theorem dX10_pass_65 : decode cX10_pass 65 = .ok (.if_icmp .ne 10, 3) := by decide +kernel
theorem dX10_pass_68 : decode cX10_pass 68 = .ok (.aload_n 0, 1) := by decide +kernel
theorem dX10_pass_69 : decode cX10_pass 69 = .ok (.iload_n 1, 1) := by decide +kernel
theorem dX10_pass_70 : decode cX10_pass 70 = .ok (.invokevirtual 131, 3) := by decide +kernel
theorem dX10_pass_73 : decode cX10_pass 73 = .ok (.iconst 0, 1) := by decide +kernel
theorem dX10_pass_74 : decode cX10_pass 74 = .ok (.ireturn, 1) := by decide +kernel
theorem dX10_pass_75 : decode cX10_pass 75 = .ok (.aload_n 0, 1) := by decide +kernel
theorem dX10_pass_76 : decode cX10_pass 76 = .ok (.getfield 7, 3) := by decide +kernel
theorem dX10_pass_79 : decode cX10_pass 79 = .ok (.bipush 14, 2) := by decide +kernel
theorem dX10_pass_81 : decode cX10_pass 81 = .ok (.bipush 7, 2) := by decide +kernel
theorem dX10_pass_83 : decode cX10_pass 83 = .ok (.iload_n 1, 1) := by decide +kernel
theorem dX10_pass_84 : decode cX10_pass 84 = .ok (.imul, 1) := by decide +kernel
theorem dX10_pass_85 : decode cX10_pass 85 = .ok (.iadd, 1) := by decide +kernel
theorem dX10_pass_86 : decode cX10_pass 86 = .ok (.iconst 2, 1) := by decide +kernel
theorem dX10_pass_87 : decode cX10_pass 87 = .ok (.iadd, 1) := by decide +kernel
theorem dX10_pass_88 : decode cX10_pass 88 = .ok (.iload_n 2, 1) := by decide +kernel
theorem dX10_pass_89 : decode cX10_pass 89 = .ok (.iastore, 1) := by decide +kernel
theorem dX10_pass_90 : decode cX10_pass 90 = .ok (.iconst 1, 1) := by decide +kernel
theorem dX10_pass_91 : decode cX10_pass 91 = .ok (.ireturn, 1) := by decide +kernel
theorem dX10_join_0 : decode cX10_join 0 = .ok (.aload_n 0, 1) := by decide +kernel
theorem dX10_join_1 : decode cX10_join 1 = .ok (.iload_n 1, 1) := by decide +kernel
theorem dX10_join_2 : decode cX10_join 2 = .ok (.invokevirtual 122, 3) := by decide +kernel
theorem dX10_join_5 : decode cX10_join 5 = .ok (.ifCond .eq 16, 3) := by decide +kernel
theorem dX10_join_8 : decode cX10_join 8 = .ok (.aload_n 0, 1) := by decide +kernel
theorem dX10_join_9 : decode cX10_join 9 = .ok (.iload_n 2, 1) := by decide +kernel
theorem dX10_join_10 : decode cX10_join 10 = .ok (.invokevirtual 122, 3) := by decide +kernel
theorem dX10_join_13 : decode cX10_join 13 = .ok (.ifCond .eq 8, 3) := by decide +kernel
theorem dX10_join_16 : decode cX10_join 16 = .ok (.iload_n 1, 1) := by decide +kernel
theorem dX10_join_17 : decode cX10_join 17 = .ok (.iload_n 2, 1) := by decide +kernel
theorem dX10_join_18 : decode cX10_join 18 = .ok (.if_icmp .ne 10, 3) := by decide +kernel
theorem dX10_join_21 : decode cX10_join 21 = .ok (.aload_n 0, 1) := by decide +kernel
theorem dX10_join_22 : decode cX10_join 22 = .ok (.bipush (-2), 2) := by decide +kernel
theorem dX10_join_24 : decode cX10_join 24 = .ok (.invokevirtual 80, 3) := by decide +kernel
theorem dX10_join_27 : decode cX10_join 27 = .ok (.ireturn, 1) := by decide +kernel
theorem dX10_join_28 : decode cX10_join 28 = .ok (.aload_n 0, 1) := by decide +kernel
theorem dX10_join_29 : decode cX10_join 29 = .ok (.iload_n 1, 1) := by decide +kernel
theorem dX10_join_30 : decode cX10_join 30 = .ok (.iconst 1, 1) := by decide +kernel
theorem dX10_join_31 : decode cX10_join 31 = .ok (.invokevirtual 112, 3) := by decide +kernel
theorem dX10_join_34 : decode cX10_join 34 = .ok (.aload_n 0, 1) := by decide +kernel
theorem dX10_join_35 : decode cX10_join 35 = .ok (.iload_n 2, 1) := by decide +kernel
theorem dX10_join_36 : decode cX10_join 36 = .ok (.iconst 1, 1) := by decide +kernel
theorem dX10_join_37 : decode cX10_join 37 = .ok (.invokevirtual 112, 3) := by decide +kernel
theorem dX10_join_40 : decode cX10_join 40 = .ok (.if_icmp .ne 37, 3) := by decide +kernel
theorem dX10_join_43 : decode cX10_join 43 = .ok (.aload_n 0, 1) := by decide +kernel
theorem dX10_join_44 : decode cX10_join 44 = .ok (.iload_n 1, 1) := by decide +kernel
theorem dX10_join_45 : decode cX10_join 45 = .ok (.iconst 2, 1) := by decide +kernel
theorem dX10_join_46 : decode cX10_join 46 = .ok (.invokevirtual 112, 3) := by decide +kernel
theorem dX10_join_49 : decode cX10_join 49 = .ok (.aload_n 0, 1) := by decide +kernel
theorem dX10_join_50 : decode cX10_join 50 = .ok (.iload_n 2, 1) := by decide +kernel
theorem dX10_join_51 : decode cX10_join 51 = .ok (.iconst 2, 1) := by decide +kernel
theorem dX10_join_52 : decode cX10_join 52 = .ok (.invokevirtual 112, 3) := by decide +kernel
theorem dX10_join_55 : decode cX10_join 55 = .ok (.if_icmp .ne 22, 3) := by decide +kernel
theorem dX10_join_58 : decode cX10_join 58 = .ok (.aload_n 0, 1) := by decide +kernel
theorem dX10_join_59 : decode cX10_join 59 = .ok (.iload_n 1, 1) := by decide +kernel
theorem dX10_join_60 : decode cX10_join 60 = .ok (.iconst 3, 1) := by decide +kernel
theorem dX10_join_61 : decode cX10_join 61 = .ok (.invokevirtual 112, 3) := by decide +kernel
theorem dX10_join_64 : decode cX10_join 64 = .ok (.aload_n 0, 1) := by decide +kernel
theorem dX10_join_65 : decode cX10_join 65 = .ok (.iload_n 2, 1) := by decide +kernel
theorem dX10_join_66 : decode cX10_join 66 = .ok (.iconst 3, 1) := by decide +kernel
theorem dX10_join_67 : decode cX10_join 67 = .ok (.invokevirtual 112, 3) := by decide +kernel
theorem dX10_join_70 : decode cX10_join 70 = .ok (.if_icmp .ne 7, 3) := by decide +kernel
theorem dX10_join_73 : decode cX10_join 73 = .ok (.iconst 1, 1) := by decide +kernel
theorem dX10_join_74 : decode cX10_join 74 = .ok (.goto 4, 3) := by decide +kernel
theorem dX10_join_77 : decode cX10_join 77 = .ok (.iconst 0, 1) := by decide +kernel
theorem dX10_join_78 : decode cX10_join 78 = .ok (.istore_n 3, 1) := by decide +kernel
theorem dX10_join_79 : decode cX10_join 79 = .ok (.iload_n 3, 1) := by decide +kernel
theorem dX10_join_80 : decode cX10_join 80 = .ok (.ifCond .eq 19, 3) := by decide +kernel
theorem dX10_join_83 : decode cX10_join 83 = .ok (.aload_n 0, 1) := by decide +kernel
theorem dX10_join_84 : decode cX10_join 84 = .ok (.iload_n 1, 1) := by decide +kernel
theorem dX10_join_85 : decode cX10_join 85 = .ok (.invokevirtual 125, 3) := by decide +kernel
theorem dX10_join_88 : decode cX10_join 88 = .ok (.ifCond .eq 11, 3) := by decide +kernel
theorem dX10_join_91 : decode cX10_join 91 = .ok (.aload_n 0, 1) := by decide +kernel
theorem dX10_join_92 : decode cX10_join 92 = .ok (.iload_n 2, 1) := by decide +kernel
theorem dX10_join_93 : decode cX10_join 93 = .ok (.invokevirtual 125, 3) := by decide +kernel
theorem dX10_join_96 : decode cX10_join 96 = .ok (.ifCond .ne 10, 3) := by decide +kernel
theorem dX10_join_99 : decode cX10_join 99 = .ok (.aload_n 0, 1) := by decide +kernel
theorem dX10_join_100 : decode cX10_join 100 = .ok (.bipush (-3), 2) := by decide +kernel
theorem dX10_join_102 : decode cX10_join 102 = .ok (.invokevirtual 128, 3) := by decide +kernel
theorem dX10_join_105 : decode cX10_join 105 = .ok (.ireturn, 1) := by decide +kernel
theorem dX10_join_106 : decode cX10_join 106 = .ok (.bipush 14, 2) := by decide +kernel
theorem dX10_join_108 : decode cX10_join 108 = .ok (.bipush 7, 2) := by decide +kernel
theorem dX10_join_110 : decode cX10_join 110 = .ok (.iload_n 1, 1) := by decide +kernel
theorem dX10_join_111 : decode cX10_join 111 = .ok (.imul, 1) := by decide +kernel
theorem dX10_join_112 : decode cX10_join 112 = .ok (.iadd, 1) := by decide +kernel
theorem dX10_join_113 : decode cX10_join 113 = .ok (.istore 4, 2) := by decide +kernel
theorem dX10_join_115 : decode cX10_join 115 = .ok (.aload_n 0, 1) := by decide +kernel
theorem dX10_join_116 : decode cX10_join 116 = .ok (.getfield 7, 3) := by decide +kernel
theorem dX10_join_119 : decode cX10_join 119 = .ok (.iload 4, 2) := by decide +kernel
theorem dX10_join_121 : decode cX10_join 121 = .ok (.iconst 4, 1) := by decide +kernel
theorem dX10_join_122 : decode cX10_join 122 = .ok (.iadd, 1) := by decide +kernel
theorem dX10_join_123 : decode cX10_join 123 = .ok (.iaload, 1) := by decide +kernel
theorem dX10_join_124 : decode cX10_join 124 = .ok (.aload_n 0, 1) := by decide +kernel
theorem dX10_join_125 : decode cX10_join 125 = .ok (.iload_n 2, 1) := by decide +kernel
theorem dX10_join_126 : decode cX10_join 126 = .ok (.iconst 4, 1) := by decide +kernel
theorem dX10_join_127 : decode cX10_join 127 = .ok (.invokevirtual 112, 3) := by decide +kernel
theorem dX10_join_130 : decode cX10_join 130 = .ok (.iadd, 1) := by decide +kernel
theorem dX10_join_131 : decode cX10_join 131 = .ok (.istore 5, 2) := by decide +kernel
theorem dX10_join_133 : decode cX10_join 133 = .ok (.aload_n 0, 1) := by decide +kernel
theorem dX10_join_134 : decode cX10_join 134 = .ok (.getfield 7, 3) := by decide +kernel
theorem dX10_join_137 : decode cX10_join 137 = .ok (.iload 4, 2) := by decide +kernel
theorem dX10_join_139 : decode cX10_join 139 = .ok (.iconst 4, 1) := by decide +kernel
theorem dX10_join_140 : decode cX10_join 140 = .ok (.iadd, 1) := by decide +kernel
theorem dX10_join_141 : decode cX10_join 141 = .ok (.iload 5, 2) := by decide +kernel
theorem dX10_join_143 : decode cX10_join 143 = .ok (.bipush 40, 2) := by decide +kernel
theorem dX10_join_145 : decode cX10_join 145 = .ok (.if_icmp .le 8, 3) := by decide +kernel
theorem dX10_join_148 : decode cX10_join 148 = .ok (.bipush 40, 2) := by decide +kernel
theorem dX10_join_150 : decode cX10_join 150 = .ok (.goto 5, 3) := by decide +kernel
theorem dX10_join_153 : decode cX10_join 153 = .ok (.iload 5, 2) := by decide +kernel
theorem dX10_join_155 : decode cX10_join 155 = .ok (.iastore, 1) := by decide +kernel
theorem dX10_join_156 : decode cX10_join 156 = .ok (.aload_n 0, 1) := by decide +kernel
theorem dX10_join_157 : decode cX10_join 157 = .ok (.getfield 7, 3) := by decide +kernel
theorem dX10_join_160 : decode cX10_join 160 = .ok (.iload 4, 2) := by decide +kernel
theorem dX10_join_162 : decode cX10_join 162 = .ok (.iconst 5, 1) := by decide +kernel
theorem dX10_join_163 : decode cX10_join 163 = .ok (.iadd, 1) := by decide +kernel
theorem dX10_join_164 : decode cX10_join 164 = .ok (.aload_n 0, 1) := by decide +kernel
theorem dX10_join_165 : decode cX10_join 165 = .ok (.iload_n 2, 1) := by decide +kernel
theorem dX10_join_166 : decode cX10_join 166 = .ok (.iconst 5, 1) := by decide +kernel
theorem dX10_join_167 : decode cX10_join 167 = .ok (.invokevirtual 112, 3) := by decide +kernel
theorem dX10_join_170 : decode cX10_join 170 = .ok (.aload_n 0, 1) := by decide +kernel
theorem dX10_join_171 : decode cX10_join 171 = .ok (.getfield 7, 3) := by decide +kernel
theorem dX10_join_174 : decode cX10_join 174 = .ok (.iload 4, 2) := by decide +kernel
theorem dX10_join_176 : decode cX10_join 176 = .ok (.iconst 5, 1) := by decide +kernel
theorem dX10_join_177 : decode cX10_join 177 = .ok (.iadd, 1) := by decide +kernel
theorem dX10_join_178 : decode cX10_join 178 = .ok (.iaload, 1) := by decide +kernel
theorem dX10_join_179 : decode cX10_join 179 = .ok (.if_icmp .ge 12, 3) := by decide +kernel
theorem dX10_join_182 : decode cX10_join 182 = .ok (.aload_n 0, 1) := by decide +kernel
theorem dX10_join_183 : decode cX10_join 183 = .ok (.iload_n 2, 1) := by decide +kernel
theorem dX10_join_184 : decode cX10_join 184 = .ok (.iconst 5, 1) := by decide +kernel
theorem dX10_join_185 : decode cX10_join 185 = .ok (.invokevirtual 112, 3) := by decide +kernel
theorem dX10_join_188 : decode cX10_join 188 = .ok (.goto 12, 3) := by decide +kernel
theorem dX10_join_191 : decode cX10_join 191 = .ok (.aload_n 0, 1) := by decide +kernel
theorem dX10_join_192 : decode cX10_join 192 = .ok (.getfield 7, 3) := by decide +kernel
theorem dX10_join_195 : decode cX10_join 195 = .ok (.iload 4, 2) := by decide +kernel
theorem dX10_join_197 : decode cX10_join 197 = .ok (.iconst 5, 1) := by decide +kernel
theorem dX10_join_198 : decode cX10_join 198 = .ok (.iadd, 1) := by decide +kernel
theorem dX10_join_199 : decode cX10_join 199 = .ok (.iaload, 1) := by decide +kernel
theorem dX10_join_200 : decode cX10_join 200 = .ok (.iastore, 1) := by decide +kernel
theorem dX10_join_201 : decode cX10_join 201 = .ok (.aload_n 0, 1) := by decide +kernel
theorem dX10_join_202 : decode cX10_join 202 = .ok (.iload_n 2, 1) := by decide +kernel
theorem dX10_join_203 : decode cX10_join 203 = .ok (.invokevirtual 131, 3) := by decide +kernel
theorem dX10_join_206 : decode cX10_join 206 = .ok (.aload_n 0, 1) := by decide +kernel
theorem dX10_join_207 : decode cX10_join 207 = .ok (.getfield 7, 3) := by decide +kernel
theorem dX10_join_210 : decode cX10_join 210 = .ok (.iload 4, 2) := by decide +kernel
theorem dX10_join_212 : decode cX10_join 212 = .ok (.iconst 4, 1) := by decide +kernel
theorem dX10_join_213 : decode cX10_join 213 = .ok (.iadd, 1) := by decide +kernel
theorem dX10_join_214 : decode cX10_join 214 = .ok (.iaload, 1) := by decide +kernel
theorem dX10_join_215 : decode cX10_join 215 = .ok (.ireturn, 1) := by decide +kernel
theorem dX10_ask_0 : decode cX10_ask 0 = .ok (.aload_n 0, 1) := by decide +kernel
theorem dX10_ask_1 : decode cX10_ask 1 = .ok (.iload_n 1, 1) := by decide +kernel
theorem dX10_ask_2 : decode cX10_ask 2 = .ok (.invokevirtual 122, 3) := by decide +kernel
theorem dX10_ask_5 : decode cX10_ask 5 = .ok (.ifCond .ne 10, 3) := by decide +kernel
theorem dX10_ask_8 : decode cX10_ask 8 = .ok (.aload_n 0, 1) := by decide +kernel
theorem dX10_ask_9 : decode cX10_ask 9 = .ok (.bipush (-2), 2) := by decide +kernel
theorem dX10_ask_11 : decode cX10_ask 11 = .ok (.invokevirtual 80, 3) := by decide +kernel
theorem dX10_ask_14 : decode cX10_ask 14 = .ok (.ireturn, 1) := by decide +kernel
theorem dX10_ask_15 : decode cX10_ask 15 = .ok (.aload_n 0, 1) := by decide +kernel
theorem dX10_ask_16 : decode cX10_ask 16 = .ok (.iload_n 1, 1) := by decide +kernel
theorem dX10_ask_17 : decode cX10_ask 17 = .ok (.invokevirtual 125, 3) := by decide +kernel
theorem dX10_ask_20 : decode cX10_ask 20 = .ok (.istore_n 2, 1) := by decide +kernel
theorem dX10_ask_21 : decode cX10_ask 21 = .ok (.aload_n 0, 1) := by decide +kernel
theorem dX10_ask_22 : decode cX10_ask 22 = .ok (.iload_n 1, 1) := by decide +kernel
theorem dX10_ask_23 : decode cX10_ask 23 = .ok (.iconst 1, 1) := by decide +kernel
theorem dX10_ask_24 : decode cX10_ask 24 = .ok (.invokevirtual 112, 3) := by decide +kernel
theorem dX10_ask_27 : decode cX10_ask 27 = .ok (.istore_n 3, 1) := by decide +kernel
theorem dX10_ask_28 : decode cX10_ask 28 = .ok (.iload_n 2, 1) := by decide +kernel
theorem dX10_ask_29 : decode cX10_ask 29 = .ok (.ifCond .eq 25, 3) := by decide +kernel
theorem dX10_ask_32 : decode cX10_ask 32 = .ok (.aload_n 0, 1) := by decide +kernel
theorem dX10_ask_33 : decode cX10_ask 33 = .ok (.getfield 7, 3) := by decide +kernel
theorem dX10_ask_36 : decode cX10_ask 36 = .ok (.bipush 8, 2) := by decide +kernel
theorem dX10_ask_38 : decode cX10_ask 38 = .ok (.iload_n 3, 1) := by decide +kernel
theorem dX10_ask_39 : decode cX10_ask 39 = .ok (.iadd, 1) := by decide +kernel
theorem dX10_ask_40 : decode cX10_ask 40 = .ok (.iaload, 1) := by decide +kernel
theorem dX10_ask_41 : decode cX10_ask 41 = .ok (.iload_n 2, 1) := by decide +kernel
theorem dX10_ask_42 : decode cX10_ask 42 = .ok (.iadd, 1) := by decide +kernel
theorem dX10_ask_43 : decode cX10_ask 43 = .ok (.aload_n 0, 1) := by decide +kernel
theorem dX10_ask_44 : decode cX10_ask 44 = .ok (.getfield 7, 3) := by decide +kernel
theorem dX10_ask_47 : decode cX10_ask 47 = .ok (.iconst 2, 1) := by decide +kernel
theorem dX10_ask_48 : decode cX10_ask 48 = .ok (.iload_n 3, 1) := by decide +kernel
theorem dX10_ask_49 : decode cX10_ask 49 = .ok (.iadd, 1) := by decide +kernel
theorem dX10_ask_50 : decode cX10_ask 50 = .ok (.iaload, 1) := by decide +kernel
theorem dX10_ask_51 : decode cX10_ask 51 = .ok (.if_icmp .le 10, 3) := by decide +kernel
theorem dX10_ask_54 : decode cX10_ask 54 = .ok (.aload_n 0, 1) := by decide +kernel
theorem dX10_ask_55 : decode cX10_ask 55 = .ok (.bipush (-3), 2) := by decide +kernel
theorem dX10_ask_57 : decode cX10_ask 57 = .ok (.invokevirtual 128, 3) := by decide +kernel
theorem dX10_ask_60 : decode cX10_ask 60 = .ok (.ireturn, 1) := by decide +kernel
theorem dX10_ask_61 : decode cX10_ask 61 = .ok (.aload_n 0, 1) := by decide +kernel
theorem dX10_ask_62 : decode cX10_ask 62 = .ok (.getfield 7, 3) := by decide +kernel
theorem dX10_ask_65 : decode cX10_ask 65 = .ok (.bipush 8, 2) := by decide +kernel
theorem dX10_ask_67 : decode cX10_ask 67 = .ok (.iload_n 3, 1) := by decide +kernel
theorem dX10_ask_68 : decode cX10_ask 68 = .ok (.iadd, 1) := by decide +kernel
theorem dX10_ask_69 : decode cX10_ask 69 = .ok (.dup2, 1) := by decide +kernel
theorem dX10_ask_70 : decode cX10_ask 70 = .ok (.iaload, 1) := by decide +kernel
theorem dX10_ask_71 : decode cX10_ask 71 = .ok (.iload_n 2, 1) := by decide +kernel
theorem dX10_ask_72 : decode cX10_ask 72 = .ok (.iadd, 1) := by decide +kernel
theorem dX10_ask_73 : decode cX10_ask 73 = .ok (.iastore, 1) := by decide +kernel
theorem dX10_ask_74 : decode cX10_ask 74 = .ok (.aload_n 0, 1) := by decide +kernel
theorem dX10_ask_75 : decode cX10_ask 75 = .ok (.iload_n 1, 1) := by decide +kernel
theorem dX10_ask_76 : decode cX10_ask 76 = .ok (.invokevirtual 131, 3) := by decide +kernel
theorem dX10_ask_79 : decode cX10_ask 79 = .ok (.iload_n 2, 1) := by decide +kernel
theorem dX10_ask_80 : decode cX10_ask 80 = .ok (.ireturn, 1) := by decide +kernel
theorem dX10_night_0 : decode cX10_night 0 = .ok (.aload_n 0, 1) := by decide +kernel
theorem dX10_night_1 : decode cX10_night 1 = .ok (.invokevirtual 101, 3) := by decide +kernel
theorem dX10_night_4 : decode cX10_night 4 = .ok (.bipush 99, 2) := by decide +kernel
theorem dX10_night_6 : decode cX10_night 6 = .ok (.if_icmp .ne 10, 3) := by decide +kernel
theorem dX10_night_9 : decode cX10_night 9 = .ok (.aload_n 0, 1) := by decide +kernel
theorem dX10_night_10 : decode cX10_night 10 = .ok (.bipush (-3), 2) := by decide +kernel
theorem dX10_night_12 : decode cX10_night 12 = .ok (.invokevirtual 128, 3) := by decide +kernel
theorem dX10_night_15 : decode cX10_night 15 = .ok (.ireturn, 1) := by decide +kernel
theorem dX10_night_16 : decode cX10_night 16 = .ok (.aload_n 0, 1) := by decide +kernel
theorem dX10_night_17 : decode cX10_night 17 = .ok (.getfield 7, 3) := by decide +kernel
theorem dX10_night_20 : decode cX10_night 20 = .ok (.sipush 161, 3) := by decide +kernel
theorem dX10_night_23 : decode cX10_night 23 = .ok (.iaload, 1) := by decide +kernel
theorem dX10_night_24 : decode cX10_night 24 = .ok (.iconst 2, 1) := by decide +kernel
theorem dX10_night_25 : decode cX10_night 25 = .ok (.if_icmp .ne 47, 3) := by decide +kernel
theorem dX10_night_28 : decode cX10_night 28 = .ok (.iconst 0, 1) := by decide +kernel
theorem dX10_night_29 : decode cX10_night 29 = .ok (.istore_n 1, 1) := by decide +kernel
theorem dX10_night_30 : decode cX10_night 30 = .ok (.iload_n 1, 1) := by decide +kernel
theorem dX10_night_31 : decode cX10_night 31 = .ok (.sipush 161, 3) := by decide +kernel
theorem dX10_night_34 : decode cX10_night 34 = .ok (.if_icmp .ge 29, 3) := by decide +kernel
theorem dX10_night_37 : decode cX10_night 37 = .ok (.aload_n 0, 1) := by decide +kernel
theorem dX10_night_38 : decode cX10_night 38 = .ok (.getfield 7, 3) := by decide +kernel
theorem dX10_night_41 : decode cX10_night 41 = .ok (.sipush 162, 3) := by decide +kernel
theorem dX10_night_44 : decode cX10_night 44 = .ok (.iload_n 1, 1) := by decide +kernel
theorem dX10_night_45 : decode cX10_night 45 = .ok (.iadd, 1) := by decide +kernel
theorem dX10_night_46 : decode cX10_night 46 = .ok (.aload_n 0, 1) := by decide +kernel
theorem dX10_night_47 : decode cX10_night 47 = .ok (.getfield 7, 3) := by decide +kernel
theorem dX10_night_50 : decode cX10_night 50 = .ok (.sipush 323, 3) := by decide +kernel
theorem dX10_night_53 : decode cX10_night 53 = .ok (.iload_n 1, 1) := by decide +kernel
theorem dX10_night_54 : decode cX10_night 54 = .ok (.iadd, 1) := by decide +kernel
theorem dX10_night_55 : decode cX10_night 55 = .ok (.iaload, 1) := by decide +kernel
theorem dX10_night_56 : decode cX10_night 56 = .ok (.iastore, 1) := by decide +kernel
theorem dX10_night_57 : decode cX10_night 57 = .ok (.iinc 1 1, 3) := by decide +kernel
theorem dX10_night_60 : decode cX10_night 60 = .ok (.goto (-30), 3) := by decide +kernel
theorem dX10_night_63 : decode cX10_night 63 = .ok (.aload_n 0, 1) := by decide +kernel
theorem dX10_night_64 : decode cX10_night 64 = .ok (.getfield 7, 3) := by decide +kernel
theorem dX10_night_67 : decode cX10_night 67 = .ok (.sipush 161, 3) := by decide +kernel
theorem dX10_night_70 : decode cX10_night 70 = .ok (.iconst 1, 1) := by decide +kernel
theorem dX10_night_71 : decode cX10_night 71 = .ok (.iastore, 1) := by decide +kernel
theorem dX10_night_72 : decode cX10_night 72 = .ok (.iconst 0, 1) := by decide +kernel
theorem dX10_night_73 : decode cX10_night 73 = .ok (.istore_n 1, 1) := by decide +kernel
theorem dX10_night_74 : decode cX10_night 74 = .ok (.iload_n 1, 1) := by decide +kernel
theorem dX10_night_75 : decode cX10_night 75 = .ok (.sipush 161, 3) := by decide +kernel
theorem dX10_night_78 : decode cX10_night 78 = .ok (.if_icmp .ge 38, 3) := by decide +kernel
theorem dX10_night_81 : decode cX10_night 81 = .ok (.aload_n 0, 1) := by decide +kernel
theorem dX10_night_82 : decode cX10_night 82 = .ok (.getfield 7, 3) := by decide +kernel
theorem dX10_night_85 : decode cX10_night 85 = .ok (.sipush 162, 3) := by decide +kernel
theorem dX10_night_88 : decode cX10_night 88 = .ok (.sipush 161, 3) := by decide +kernel
theorem dX10_night_91 : decode cX10_night 91 = .ok (.aload_n 0, 1) := by decide +kernel
theorem dX10_night_92 : decode cX10_night 92 = .ok (.getfield 7, 3) := by decide +kernel
theorem dX10_night_95 : decode cX10_night 95 = .ok (.sipush 161, 3) := by decide +kernel
theorem dX10_night_98 : decode cX10_night 98 = .ok (.iaload, 1) := by decide +kernel
theorem dX10_night_99 : decode cX10_night 99 = .ok (.imul, 1) := by decide +kernel
theorem dX10_night_100 : decode cX10_night 100 = .ok (.iadd, 1) := by decide +kernel
theorem dX10_night_101 : decode cX10_night 101 = .ok (.iload_n 1, 1) := by decide +kernel
theorem dX10_night_102 : decode cX10_night 102 = .ok (.iadd, 1) := by decide +kernel
theorem dX10_night_103 : decode cX10_night 103 = .ok (.aload_n 0, 1) := by decide +kernel
theorem dX10_night_104 : decode cX10_night 104 = .ok (.getfield 7, 3) := by decide +kernel
theorem dX10_night_107 : decode cX10_night 107 = .ok (.iload_n 1, 1) := by decide +kernel
theorem dX10_night_108 : decode cX10_night 108 = .ok (.iaload, 1) := by decide +kernel
theorem dX10_night_109 : decode cX10_night 109 = .ok (.iastore, 1) := by decide +kernel
theorem dX10_night_110 : decode cX10_night 110 = .ok (.iinc 1 1, 3) := by decide +kernel
theorem dX10_night_113 : decode cX10_night 113 = .ok (.goto (-39), 3) := by decide +kernel
theorem dX10_night_116 : decode cX10_night 116 = .ok (.aload_n 0, 1) := by decide +kernel
theorem dX10_night_117 : decode cX10_night 117 = .ok (.getfield 7, 3) := by decide +kernel
theorem dX10_night_120 : decode cX10_night 120 = .ok (.sipush 161, 3) := by decide +kernel
theorem dX10_night_123 : decode cX10_night 123 = .ok (.dup2, 1) := by decide +kernel
theorem dX10_night_124 : decode cX10_night 124 = .ok (.iaload, 1) := by decide +kernel
theorem dX10_night_125 : decode cX10_night 125 = .ok (.iconst 1, 1) := by decide +kernel
theorem dX10_night_126 : decode cX10_night 126 = .ok (.iadd, 1) := by decide +kernel
theorem dX10_night_127 : decode cX10_night 127 = .ok (.iastore, 1) := by decide +kernel
theorem dX10_night_128 : decode cX10_night 128 = .ok (.aload_n 0, 1) := by decide +kernel
theorem dX10_night_129 : decode cX10_night 129 = .ok (.getfield 7, 3) := by decide +kernel
theorem dX10_night_132 : decode cX10_night 132 = .ok (.iconst 0, 1) := by decide +kernel
theorem dX10_night_133 : decode cX10_night 133 = .ok (.dup2, 1) := by decide +kernel
theorem dX10_night_134 : decode cX10_night 134 = .ok (.iaload, 1) := by decide +kernel
theorem dX10_night_135 : decode cX10_night 135 = .ok (.iconst 1, 1) := by decide +kernel
theorem dX10_night_136 : decode cX10_night 136 = .ok (.iadd, 1) := by decide +kernel
theorem dX10_night_137 : decode cX10_night 137 = .ok (.iastore, 1) := by decide +kernel
theorem dX10_night_138 : decode cX10_night 138 = .ok (.iconst 0, 1) := by decide +kernel
theorem dX10_night_139 : decode cX10_night 139 = .ok (.istore_n 1, 1) := by decide +kernel
theorem dX10_night_140 : decode cX10_night 140 = .ok (.iload_n 1, 1) := by decide +kernel
theorem dX10_night_141 : decode cX10_night 141 = .ok (.bipush 6, 2) := by decide +kernel
theorem dX10_night_143 : decode cX10_night 143 = .ok (.if_icmp .ge 19, 3) := by decide +kernel
theorem dX10_night_146 : decode cX10_night 146 = .ok (.aload_n 0, 1) := by decide +kernel
theorem dX10_night_147 : decode cX10_night 147 = .ok (.getfield 7, 3) := by decide +kernel
theorem dX10_night_150 : decode cX10_night 150 = .ok (.bipush 8, 2) := by decide +kernel
theorem dX10_night_152 : decode cX10_night 152 = .ok (.iload_n 1, 1) := by decide +kernel
theorem dX10_night_153 : decode cX10_night 153 = .ok (.iadd, 1) := by decide +kernel
theorem dX10_night_154 : decode cX10_night 154 = .ok (.iconst 0, 1) := by decide +kernel
theorem dX10_night_155 : decode cX10_night 155 = .ok (.iastore, 1) := by decide +kernel
theorem dX10_night_156 : decode cX10_night 156 = .ok (.iinc 1 1, 3) := by decide +kernel
theorem dX10_night_159 : decode cX10_night 159 = .ok (.goto (-19), 3) := by decide +kernel
theorem dX10_night_162 : decode cX10_night 162 = .ok (.aload_n 0, 1) := by decide +kernel
theorem dX10_night_163 : decode cX10_night 163 = .ok (.invokevirtual 101, 3) := by decide +kernel
theorem dX10_night_166 : decode cX10_night 166 = .ok (.ireturn, 1) := by decide +kernel
theorem dX10_undo_0 : decode cX10_undo 0 = .ok (.aload_n 0, 1) := by decide +kernel
theorem dX10_undo_1 : decode cX10_undo 1 = .ok (.getfield 7, 3) := by decide +kernel
theorem dX10_undo_4 : decode cX10_undo 4 = .ok (.sipush 161, 3) := by decide +kernel
theorem dX10_undo_7 : decode cX10_undo 7 = .ok (.iaload, 1) := by decide +kernel
theorem dX10_undo_8 : decode cX10_undo 8 = .ok (.ifCond .ne 10, 3) := by decide +kernel
theorem dX10_undo_11 : decode cX10_undo 11 = .ok (.aload_n 0, 1) := by decide +kernel
theorem dX10_undo_12 : decode cX10_undo 12 = .ok (.bipush (-3), 2) := by decide +kernel
theorem dX10_undo_14 : decode cX10_undo 14 = .ok (.invokevirtual 128, 3) := by decide +kernel
theorem dX10_undo_17 : decode cX10_undo 17 = .ok (.ireturn, 1) := by decide +kernel
theorem dX10_undo_18 : decode cX10_undo 18 = .ok (.aload_n 0, 1) := by decide +kernel
theorem dX10_undo_19 : decode cX10_undo 19 = .ok (.getfield 7, 3) := by decide +kernel
theorem dX10_undo_22 : decode cX10_undo 22 = .ok (.sipush 161, 3) := by decide +kernel
theorem dX10_undo_25 : decode cX10_undo 25 = .ok (.dup2, 1) := by decide +kernel
theorem dX10_undo_26 : decode cX10_undo 26 = .ok (.iaload, 1) := by decide +kernel
theorem dX10_undo_27 : decode cX10_undo 27 = .ok (.iconst 1, 1) := by decide +kernel
theorem dX10_undo_28 : decode cX10_undo 28 = .ok (.isub, 1) := by decide +kernel
theorem dX10_undo_29 : decode cX10_undo 29 = .ok (.iastore, 1) := by decide +kernel
theorem dX10_undo_30 : decode cX10_undo 30 = .ok (.iconst 0, 1) := by decide +kernel
theorem dX10_undo_31 : decode cX10_undo 31 = .ok (.istore_n 1, 1) := by decide +kernel
theorem dX10_undo_32 : decode cX10_undo 32 = .ok (.iload_n 1, 1) := by decide +kernel
theorem dX10_undo_33 : decode cX10_undo 33 = .ok (.sipush 161, 3) := by decide +kernel
theorem dX10_undo_36 : decode cX10_undo 36 = .ok (.if_icmp .ge 38, 3) := by decide +kernel
theorem dX10_undo_39 : decode cX10_undo 39 = .ok (.aload_n 0, 1) := by decide +kernel
theorem dX10_undo_40 : decode cX10_undo 40 = .ok (.getfield 7, 3) := by decide +kernel
theorem dX10_undo_43 : decode cX10_undo 43 = .ok (.iload_n 1, 1) := by decide +kernel
theorem dX10_undo_44 : decode cX10_undo 44 = .ok (.aload_n 0, 1) := by decide +kernel
theorem dX10_undo_45 : decode cX10_undo 45 = .ok (.getfield 7, 3) := by decide +kernel
theorem dX10_undo_48 : decode cX10_undo 48 = .ok (.sipush 162, 3) := by decide +kernel
theorem dX10_undo_51 : decode cX10_undo 51 = .ok (.sipush 161, 3) := by decide +kernel
theorem dX10_undo_54 : decode cX10_undo 54 = .ok (.aload_n 0, 1) := by decide +kernel
theorem dX10_undo_55 : decode cX10_undo 55 = .ok (.getfield 7, 3) := by decide +kernel
theorem dX10_undo_58 : decode cX10_undo 58 = .ok (.sipush 161, 3) := by decide +kernel
theorem dX10_undo_61 : decode cX10_undo 61 = .ok (.iaload, 1) := by decide +kernel
theorem dX10_undo_62 : decode cX10_undo 62 = .ok (.imul, 1) := by decide +kernel
theorem dX10_undo_63 : decode cX10_undo 63 = .ok (.iadd, 1) := by decide +kernel
theorem dX10_undo_64 : decode cX10_undo 64 = .ok (.iload_n 1, 1) := by decide +kernel
theorem dX10_undo_65 : decode cX10_undo 65 = .ok (.iadd, 1) := by decide +kernel
theorem dX10_undo_66 : decode cX10_undo 66 = .ok (.iaload, 1) := by decide +kernel
theorem dX10_undo_67 : decode cX10_undo 67 = .ok (.iastore, 1) := by decide +kernel
theorem dX10_undo_68 : decode cX10_undo 68 = .ok (.iinc 1 1, 3) := by decide +kernel
theorem dX10_undo_71 : decode cX10_undo 71 = .ok (.goto (-39), 3) := by decide +kernel
theorem dX10_undo_74 : decode cX10_undo 74 = .ok (.iconst 1, 1) := by decide +kernel
theorem dX10_undo_75 : decode cX10_undo 75 = .ok (.ireturn, 1) := by decide +kernel
theorem dX10_owesTo_0 : decode cX10_owesTo 0 = .ok (.iconst 0, 1) := by decide +kernel
theorem dX10_owesTo_1 : decode cX10_owesTo 1 = .ok (.istore_n 3, 1) := by decide +kernel
theorem dX10_owesTo_2 : decode cX10_owesTo 2 = .ok (.iconst 0, 1) := by decide +kernel
theorem dX10_owesTo_3 : decode cX10_owesTo 3 = .ok (.istore 4, 2) := by decide +kernel
theorem dX10_owesTo_5 : decode cX10_owesTo 5 = .ok (.iload 4, 2) := by decide +kernel
theorem dX10_owesTo_7 : decode cX10_owesTo 7 = .ok (.aload_n 0, 1) := by decide +kernel
theorem dX10_owesTo_8 : decode cX10_owesTo 8 = .ok (.getfield 7, 3) := by decide +kernel
theorem dX10_owesTo_11 : decode cX10_owesTo 11 = .ok (.sipush 158, 3) := by decide +kernel
theorem dX10_owesTo_14 : decode cX10_owesTo 14 = .ok (.iaload, 1) := by decide +kernel
theorem dX10_owesTo_15 : decode cX10_owesTo 15 = .ok (.if_icmp .ge 44, 3) := by decide +kernel
theorem dX10_owesTo_18 : decode cX10_owesTo 18 = .ok (.iload_n 3, 1) := by decide +kernel
theorem dX10_owesTo_19 : decode cX10_owesTo 19 = .ok (.aload_n 0, 1) := by decide +kernel
theorem dX10_owesTo_20 : decode cX10_owesTo 20 = .ok (.iload 4, 2) := by decide +kernel
theorem dX10_owesTo_22 : decode cX10_owesTo 22 = .ok (.iconst 1, 1) := by decide +kernel
theorem dX10_owesTo_23 : decode cX10_owesTo 23 = .ok (.invokevirtual 112, 3) := by decide +kernel
theorem dX10_owesTo_26 : decode cX10_owesTo 26 = .ok (.iload_n 1, 1) := by decide +kernel
theorem dX10_owesTo_27 : decode cX10_owesTo 27 = .ok (.if_icmp .ne 23, 3) := by decide +kernel
theorem dX10_owesTo_30 : decode cX10_owesTo 30 = .ok (.aload_n 0, 1) := by decide +kernel
theorem dX10_owesTo_31 : decode cX10_owesTo 31 = .ok (.iload 4, 2) := by decide +kernel
theorem dX10_owesTo_33 : decode cX10_owesTo 33 = .ok (.iconst 2, 1) := by decide +kernel
theorem dX10_owesTo_34 : decode cX10_owesTo 34 = .ok (.invokevirtual 112, 3) := by decide +kernel
theorem dX10_owesTo_37 : decode cX10_owesTo 37 = .ok (.iload_n 2, 1) := by decide +kernel
theorem dX10_owesTo_38 : decode cX10_owesTo 38 = .ok (.if_icmp .ne 12, 3) := by decide +kernel
theorem dX10_owesTo_41 : decode cX10_owesTo 41 = .ok (.aload_n 0, 1) := by decide +kernel
theorem dX10_owesTo_42 : decode cX10_owesTo 42 = .ok (.iload 4, 2) := by decide +kernel
theorem dX10_owesTo_44 : decode cX10_owesTo 44 = .ok (.invokevirtual 125, 3) := by decide +kernel
theorem dX10_owesTo_47 : decode cX10_owesTo 47 = .ok (.goto 4, 3) := by decide +kernel
theorem dX10_owesTo_50 : decode cX10_owesTo 50 = .ok (.iconst 0, 1) := by decide +kernel
theorem dX10_owesTo_51 : decode cX10_owesTo 51 = .ok (.iadd, 1) := by decide +kernel
theorem dX10_owesTo_52 : decode cX10_owesTo 52 = .ok (.istore_n 3, 1) := by decide +kernel
theorem dX10_owesTo_53 : decode cX10_owesTo 53 = .ok (.iinc 4 1, 3) := by decide +kernel
theorem dX10_owesTo_56 : decode cX10_owesTo 56 = .ok (.goto (-51), 3) := by decide +kernel
theorem dX10_owesTo_59 : decode cX10_owesTo 59 = .ok (.iload_n 3, 1) := by decide +kernel
theorem dX10_owesTo_60 : decode cX10_owesTo 60 = .ok (.ireturn, 1) := by decide +kernel
theorem dX10_owes_0 : decode cX10_owes 0 = .ok (.aload_n 0, 1) := by decide +kernel
theorem dX10_owes_1 : decode cX10_owes 1 = .ok (.iload_n 1, 1) := by decide +kernel
theorem dX10_owes_2 : decode cX10_owes 2 = .ok (.invokevirtual 84, 3) := by decide +kernel
theorem dX10_owes_5 : decode cX10_owes 5 = .ok (.ifCond .eq 25, 3) := by decide +kernel
theorem dX10_owes_8 : decode cX10_owes 8 = .ok (.aload_n 0, 1) := by decide +kernel
theorem dX10_owes_9 : decode cX10_owes 9 = .ok (.iload_n 2, 1) := by decide +kernel
theorem dX10_owes_10 : decode cX10_owes 10 = .ok (.invokevirtual 84, 3) := by decide +kernel
theorem dX10_owes_13 : decode cX10_owes 13 = .ok (.ifCond .eq 17, 3) := by decide +kernel
theorem dX10_owes_16 : decode cX10_owes 16 = .ok (.iload_n 1, 1) := by decide +kernel
theorem dX10_owes_17 : decode cX10_owes 17 = .ok (.iload_n 2, 1) := by decide +kernel
theorem dX10_owes_18 : decode cX10_owes 18 = .ok (.if_icmp .eq 12, 3) := by decide +kernel
theorem dX10_owes_21 : decode cX10_owes 21 = .ok (.aload_n 0, 1) := by decide +kernel
theorem dX10_owes_22 : decode cX10_owes 22 = .ok (.iload_n 1, 1) := by decide +kernel
theorem dX10_owes_23 : decode cX10_owes 23 = .ok (.iload_n 2, 1) := by decide +kernel
theorem dX10_owes_24 : decode cX10_owes 24 = .ok (.invokevirtual 135, 3) := by decide +kernel
theorem dX10_owes_27 : decode cX10_owes 27 = .ok (.goto 10, 3) := by decide +kernel
theorem dX10_owes_30 : decode cX10_owes 30 = .ok (.aload_n 0, 1) := by decide +kernel
theorem dX10_owes_31 : decode cX10_owes 31 = .ok (.sipush (-1000), 3) := by decide +kernel
theorem dX10_owes_34 : decode cX10_owes 34 = .ok (.invokevirtual 80, 3) := by decide +kernel
theorem dX10_owes_37 : decode cX10_owes 37 = .ok (.ireturn, 1) := by decide +kernel
theorem dX10_layRing_0 : decode cX10_layRing 0 = .ok (.iload_n 1, 1) := by decide +kernel
theorem dX10_layRing_1 : decode cX10_layRing 1 = .ok (.istore_n 3, 1) := by decide +kernel
theorem dX10_layRing_2 : decode cX10_layRing 2 = .ok (.iload_n 2, 1) := by decide +kernel
theorem dX10_layRing_3 : decode cX10_layRing 3 = .ok (.iconst 1, 1) := by decide +kernel
theorem dX10_layRing_4 : decode cX10_layRing 4 = .ok (.isub, 1) := by decide +kernel
theorem dX10_layRing_5 : decode cX10_layRing 5 = .ok (.istore 4, 2) := by decide +kernel
theorem dX10_layRing_7 : decode cX10_layRing 7 = .ok (.iload 4, 2) := by decide +kernel
theorem dX10_layRing_9 : decode cX10_layRing 9 = .ok (.ifCond .lt 29, 3) := by decide +kernel
theorem dX10_layRing_12 : decode cX10_layRing 12 = .ok (.aload_n 0, 1) := by decide +kernel
theorem dX10_layRing_13 : decode cX10_layRing 13 = .ok (.getfield 27, 3) := by decide +kernel
theorem dX10_layRing_16 : decode cX10_layRing 16 = .ok (.iload 4, 2) := by decide +kernel
theorem dX10_layRing_18 : decode cX10_layRing 18 = .ok (.iload_n 3, 1) := by decide +kernel
theorem dX10_layRing_19 : decode cX10_layRing 19 = .ok (.aload_n 0, 1) := by decide +kernel
theorem dX10_layRing_20 : decode cX10_layRing 20 = .ok (.invokevirtual 64, 3) := by decide +kernel
theorem dX10_layRing_23 : decode cX10_layRing 23 = .ok (.irem, 1) := by decide +kernel
theorem dX10_layRing_24 : decode cX10_layRing 24 = .ok (.iastore, 1) := by decide +kernel
theorem dX10_layRing_25 : decode cX10_layRing 25 = .ok (.iload_n 3, 1) := by decide +kernel
theorem dX10_layRing_26 : decode cX10_layRing 26 = .ok (.aload_n 0, 1) := by decide +kernel
theorem dX10_layRing_27 : decode cX10_layRing 27 = .ok (.invokevirtual 64, 3) := by decide +kernel
theorem dX10_layRing_30 : decode cX10_layRing 30 = .ok (.idiv, 1) := by decide +kernel
theorem dX10_layRing_31 : decode cX10_layRing 31 = .ok (.istore_n 3, 1) := by decide +kernel
theorem dX10_layRing_32 : decode cX10_layRing 32 = .ok (.iinc 4 (-1), 3) := by decide +kernel
theorem dX10_layRing_35 : decode cX10_layRing 35 = .ok (.goto (-28), 3) := by decide +kernel
theorem dX10_layRing_38 : decode cX10_layRing 38 = .ok (.iconst 1, 1) := by decide +kernel
theorem dX10_layRing_39 : decode cX10_layRing 39 = .ok (.istore 4, 2) := by decide +kernel
theorem dX10_layRing_41 : decode cX10_layRing 41 = .ok (.iconst 0, 1) := by decide +kernel
theorem dX10_layRing_42 : decode cX10_layRing 42 = .ok (.istore 5, 2) := by decide +kernel
theorem dX10_layRing_44 : decode cX10_layRing 44 = .ok (.iload 5, 2) := by decide +kernel
theorem dX10_layRing_46 : decode cX10_layRing 46 = .ok (.iload_n 2, 1) := by decide +kernel
theorem dX10_layRing_47 : decode cX10_layRing 47 = .ok (.if_icmp .ge 112, 3) := by decide +kernel
theorem dX10_layRing_50 : decode cX10_layRing 50 = .ok (.iload 4, 2) := by decide +kernel
theorem dX10_layRing_52 : decode cX10_layRing 52 = .ok (.ifCond .eq 107, 3) := by decide +kernel
theorem dX10_layRing_55 : decode cX10_layRing 55 = .ok (.iconst 0, 1) := by decide +kernel
theorem dX10_layRing_56 : decode cX10_layRing 56 = .ok (.istore 6, 2) := by decide +kernel
theorem dX10_layRing_58 : decode cX10_layRing 58 = .ok (.iload 6, 2) := by decide +kernel
theorem dX10_layRing_60 : decode cX10_layRing 60 = .ok (.iload 5, 2) := by decide +kernel
theorem dX10_layRing_62 : decode cX10_layRing 62 = .ok (.if_icmp .ge 38, 3) := by decide +kernel
theorem dX10_layRing_65 : decode cX10_layRing 65 = .ok (.iload 4, 2) := by decide +kernel
theorem dX10_layRing_67 : decode cX10_layRing 67 = .ok (.ifCond .eq 24, 3) := by decide +kernel
theorem dX10_layRing_70 : decode cX10_layRing 70 = .ok (.aload_n 0, 1) := by decide +kernel
theorem dX10_layRing_71 : decode cX10_layRing 71 = .ok (.getfield 27, 3) := by decide +kernel
theorem dX10_layRing_74 : decode cX10_layRing 74 = .ok (.iload 6, 2) := by decide +kernel
theorem dX10_layRing_76 : decode cX10_layRing 76 = .ok (.iaload, 1) := by decide +kernel
theorem dX10_layRing_77 : decode cX10_layRing 77 = .ok (.aload_n 0, 1) := by decide +kernel
theorem dX10_layRing_78 : decode cX10_layRing 78 = .ok (.getfield 27, 3) := by decide +kernel
theorem dX10_layRing_81 : decode cX10_layRing 81 = .ok (.iload 5, 2) := by decide +kernel
theorem dX10_layRing_83 : decode cX10_layRing 83 = .ok (.iaload, 1) := by decide +kernel
theorem dX10_layRing_84 : decode cX10_layRing 84 = .ok (.if_icmp .eq 7, 3) := by decide +kernel
theorem dX10_layRing_87 : decode cX10_layRing 87 = .ok (.iconst 1, 1) := by decide +kernel
theorem dX10_layRing_88 : decode cX10_layRing 88 = .ok (.goto 4, 3) := by decide +kernel
theorem dX10_layRing_91 : decode cX10_layRing 91 = .ok (.iconst 0, 1) := by decide +kernel
theorem dX10_layRing_92 : decode cX10_layRing 92 = .ok (.istore 4, 2) := by decide +kernel
theorem dX10_layRing_94 : decode cX10_layRing 94 = .ok (.iinc 6 1, 3) := by decide +kernel
theorem dX10_layRing_97 : decode cX10_layRing 97 = .ok (.goto (-39), 3) := by decide +kernel
theorem dX10_layRing_100 : decode cX10_layRing 100 = .ok (.iload 4, 2) := by decide +kernel
theorem dX10_layRing_102 : decode cX10_layRing 102 = .ok (.ifCond .eq 48, 3) := by decide +kernel
theorem dX10_layRing_105 : decode cX10_layRing 105 = .ok (.aload_n 0, 1) := by decide +kernel
theorem dX10_layRing_106 : decode cX10_layRing 106 = .ok (.getfield 27, 3) := by decide +kernel
theorem dX10_layRing_109 : decode cX10_layRing 109 = .ok (.iconst 0, 1) := by decide +kernel
theorem dX10_layRing_110 : decode cX10_layRing 110 = .ok (.iaload, 1) := by decide +kernel
theorem dX10_layRing_111 : decode cX10_layRing 111 = .ok (.aload_n 0, 1) := by decide +kernel
theorem dX10_layRing_112 : decode cX10_layRing 112 = .ok (.getfield 27, 3) := by decide +kernel
theorem dX10_layRing_115 : decode cX10_layRing 115 = .ok (.iload 5, 2) := by decide +kernel
theorem dX10_layRing_117 : decode cX10_layRing 117 = .ok (.iaload, 1) := by decide +kernel
theorem dX10_layRing_118 : decode cX10_layRing 118 = .ok (.if_icmp .gt 32, 3) := by decide +kernel
theorem dX10_layRing_121 : decode cX10_layRing 121 = .ok (.aload_n 0, 1) := by decide +kernel
theorem dX10_layRing_122 : decode cX10_layRing 122 = .ok (.aload_n 0, 1) := by decide +kernel
theorem dX10_layRing_123 : decode cX10_layRing 123 = .ok (.getfield 27, 3) := by decide +kernel
theorem dX10_layRing_126 : decode cX10_layRing 126 = .ok (.iload 5, 2) := by decide +kernel
theorem dX10_layRing_128 : decode cX10_layRing 128 = .ok (.iaload, 1) := by decide +kernel
theorem dX10_layRing_129 : decode cX10_layRing 129 = .ok (.aload_n 0, 1) := by decide +kernel
theorem dX10_layRing_130 : decode cX10_layRing 130 = .ok (.getfield 27, 3) := by decide +kernel
theorem dX10_layRing_133 : decode cX10_layRing 133 = .ok (.iload 5, 2) := by decide +kernel
theorem dX10_layRing_135 : decode cX10_layRing 135 = .ok (.iconst 1, 1) := by decide +kernel
theorem dX10_layRing_136 : decode cX10_layRing 136 = .ok (.iadd, 1) := by decide +kernel
theorem dX10_layRing_137 : decode cX10_layRing 137 = .ok (.iload_n 2, 1) := by decide +kernel
theorem dX10_layRing_138 : decode cX10_layRing 138 = .ok (.irem, 1) := by decide +kernel
theorem dX10_layRing_139 : decode cX10_layRing 139 = .ok (.iaload, 1) := by decide +kernel
theorem dX10_layRing_140 : decode cX10_layRing 140 = .ok (.invokevirtual 135, 3) := by decide +kernel
theorem dX10_layRing_143 : decode cX10_layRing 143 = .ok (.ifCond .le 7, 3) := by decide +kernel
theorem dX10_layRing_146 : decode cX10_layRing 146 = .ok (.iconst 1, 1) := by decide +kernel
theorem dX10_layRing_147 : decode cX10_layRing 147 = .ok (.goto 4, 3) := by decide +kernel
theorem dX10_layRing_150 : decode cX10_layRing 150 = .ok (.iconst 0, 1) := by decide +kernel
theorem dX10_layRing_151 : decode cX10_layRing 151 = .ok (.istore 4, 2) := by decide +kernel
theorem dX10_layRing_153 : decode cX10_layRing 153 = .ok (.iinc 5 1, 3) := by decide +kernel
theorem dX10_layRing_156 : decode cX10_layRing 156 = .ok (.goto (-112), 3) := by decide +kernel
theorem dX10_layRing_159 : decode cX10_layRing 159 = .ok (.iload 4, 2) := by decide +kernel
theorem dX10_layRing_161 : decode cX10_layRing 161 = .ok (.ireturn, 1) := by decide +kernel
theorem dX10_findRing_0 : decode cX10_findRing 0 = .ok (.aload_n 0, 1) := by decide +kernel
theorem dX10_findRing_1 : decode cX10_findRing 1 = .ok (.iconst 0, 1) := by decide +kernel
theorem dX10_findRing_2 : decode cX10_findRing 2 = .ok (.putfield 138, 3) := by decide +kernel
theorem dX10_findRing_5 : decode cX10_findRing 5 = .ok (.aload_n 0, 1) := by decide +kernel
theorem dX10_findRing_6 : decode cX10_findRing 6 = .ok (.invokevirtual 64, 3) := by decide +kernel
theorem dX10_findRing_9 : decode cX10_findRing 9 = .ok (.istore_n 1, 1) := by decide +kernel
theorem dX10_findRing_10 : decode cX10_findRing 10 = .ok (.iconst 2, 1) := by decide +kernel
theorem dX10_findRing_11 : decode cX10_findRing 11 = .ok (.istore_n 2, 1) := by decide +kernel
theorem dX10_findRing_12 : decode cX10_findRing 12 = .ok (.iload_n 2, 1) := by decide +kernel
theorem dX10_findRing_13 : decode cX10_findRing 13 = .ok (.aload_n 0, 1) := by decide +kernel
theorem dX10_findRing_14 : decode cX10_findRing 14 = .ok (.invokevirtual 64, 3) := by decide +kernel
theorem dX10_findRing_17 : decode cX10_findRing 17 = .ok (.if_icmp .gt 61, 3) := by decide +kernel
theorem dX10_findRing_20 : decode cX10_findRing 20 = .ok (.aload_n 0, 1) := by decide +kernel
theorem dX10_findRing_21 : decode cX10_findRing 21 = .ok (.getfield 138, 3) := by decide +kernel
theorem dX10_findRing_24 : decode cX10_findRing 24 = .ok (.ifCond .ne 54, 3) := by decide +kernel
theorem dX10_findRing_27 : decode cX10_findRing 27 = .ok (.iload_n 1, 1) := by decide +kernel
theorem dX10_findRing_28 : decode cX10_findRing 28 = .ok (.aload_n 0, 1) := by decide +kernel
theorem dX10_findRing_29 : decode cX10_findRing 29 = .ok (.invokevirtual 64, 3) := by decide +kernel
theorem dX10_findRing_32 : decode cX10_findRing 32 = .ok (.imul, 1) := by decide +kernel
theorem dX10_findRing_33 : decode cX10_findRing 33 = .ok (.istore_n 1, 1) := by decide +kernel
theorem dX10_findRing_34 : decode cX10_findRing 34 = .ok (.iconst 0, 1) := by decide +kernel
theorem dX10_findRing_35 : decode cX10_findRing 35 = .ok (.istore_n 3, 1) := by decide +kernel
theorem dX10_findRing_36 : decode cX10_findRing 36 = .ok (.iload_n 3, 1) := by decide +kernel
theorem dX10_findRing_37 : decode cX10_findRing 37 = .ok (.iload_n 1, 1) := by decide +kernel
theorem dX10_findRing_38 : decode cX10_findRing 38 = .ok (.if_icmp .ge 34, 3) := by decide +kernel
theorem dX10_findRing_41 : decode cX10_findRing 41 = .ok (.aload_n 0, 1) := by decide +kernel
theorem dX10_findRing_42 : decode cX10_findRing 42 = .ok (.getfield 138, 3) := by decide +kernel
theorem dX10_findRing_45 : decode cX10_findRing 45 = .ok (.ifCond .ne 27, 3) := by decide +kernel
theorem dX10_findRing_48 : decode cX10_findRing 48 = .ok (.aload_n 0, 1) := by decide +kernel
theorem dX10_findRing_49 : decode cX10_findRing 49 = .ok (.aload_n 0, 1) := by decide +kernel
theorem dX10_findRing_50 : decode cX10_findRing 50 = .ok (.iload_n 3, 1) := by decide +kernel
theorem dX10_findRing_51 : decode cX10_findRing 51 = .ok (.iload_n 2, 1) := by decide +kernel
theorem dX10_findRing_52 : decode cX10_findRing 52 = .ok (.invokevirtual 142, 3) := by decide +kernel
theorem dX10_findRing_55 : decode cX10_findRing 55 = .ok (.ifCond .eq 7, 3) := by decide +kernel
theorem dX10_findRing_58 : decode cX10_findRing 58 = .ok (.iload_n 2, 1) := by decide +kernel
theorem dX10_findRing_59 : decode cX10_findRing 59 = .ok (.goto 4, 3) := by decide +kernel
theorem dX10_findRing_62 : decode cX10_findRing 62 = .ok (.iconst 0, 1) := by decide +kernel
theorem dX10_findRing_63 : decode cX10_findRing 63 = .ok (.putfield 138, 3) := by decide +kernel
theorem dX10_findRing_66 : decode cX10_findRing 66 = .ok (.iinc 3 1, 3) := by decide +kernel
theorem dX10_findRing_69 : decode cX10_findRing 69 = .ok (.goto (-33), 3) := by decide +kernel
theorem dX10_findRing_72 : decode cX10_findRing 72 = .ok (.iinc 2 1, 3) := by decide +kernel
theorem dX10_findRing_75 : decode cX10_findRing 75 = .ok (.goto (-63), 3) := by decide +kernel
theorem dX10_findRing_78 : decode cX10_findRing 78 = .ok (.return_, 1) := by decide +kernel
theorem dX10_ring_0 : decode cX10_ring 0 = .ok (.iload_n 1, 1) := by decide +kernel
theorem dX10_ring_1 : decode cX10_ring 1 = .ok (.iconst (-1), 1) := by decide +kernel
theorem dX10_ring_2 : decode cX10_ring 2 = .ok (.if_icmp .ge 10, 3) := by decide +kernel
theorem dX10_ring_5 : decode cX10_ring 5 = .ok (.aload_n 0, 1) := by decide +kernel
theorem dX10_ring_6 : decode cX10_ring 6 = .ok (.bipush (-10), 2) := by decide +kernel
theorem dX10_ring_8 : decode cX10_ring 8 = .ok (.invokevirtual 80, 3) := by decide +kernel
theorem dX10_ring_11 : decode cX10_ring 11 = .ok (.ireturn, 1) := by decide +kernel
theorem dX10_ring_12 : decode cX10_ring 12 = .ok (.aload_n 0, 1) := by decide +kernel
theorem dX10_ring_13 : decode cX10_ring 13 = .ok (.invokevirtual 146, 3) := by decide +kernel
theorem dX10_ring_16 : decode cX10_ring 16 = .ok (.iload_n 1, 1) := by decide +kernel
theorem dX10_ring_17 : decode cX10_ring 17 = .ok (.iconst (-1), 1) := by decide +kernel
theorem dX10_ring_18 : decode cX10_ring 18 = .ok (.if_icmp .ne 10, 3) := by decide +kernel
theorem dX10_ring_21 : decode cX10_ring 21 = .ok (.aload_n 0, 1) := by decide +kernel
theorem dX10_ring_22 : decode cX10_ring 22 = .ok (.getfield 138, 3) := by decide +kernel
theorem dX10_ring_25 : decode cX10_ring 25 = .ok (.goto 22, 3) := by decide +kernel
theorem dX10_ring_28 : decode cX10_ring 28 = .ok (.iload_n 1, 1) := by decide +kernel
theorem dX10_ring_29 : decode cX10_ring 29 = .ok (.aload_n 0, 1) := by decide +kernel
theorem dX10_ring_30 : decode cX10_ring 30 = .ok (.getfield 138, 3) := by decide +kernel
theorem dX10_ring_33 : decode cX10_ring 33 = .ok (.if_icmp .ge 12, 3) := by decide +kernel
theorem dX10_ring_36 : decode cX10_ring 36 = .ok (.aload_n 0, 1) := by decide +kernel
theorem dX10_ring_37 : decode cX10_ring 37 = .ok (.getfield 27, 3) := by decide +kernel
theorem dX10_ring_40 : decode cX10_ring 40 = .ok (.iload_n 1, 1) := by decide +kernel
theorem dX10_ring_41 : decode cX10_ring 41 = .ok (.iaload, 1) := by decide +kernel
theorem dX10_ring_42 : decode cX10_ring 42 = .ok (.goto 5, 3) := by decide +kernel
theorem dX10_ring_45 : decode cX10_ring 45 = .ok (.bipush (-5), 2) := by decide +kernel
theorem dX10_ring_47 : decode cX10_ring 47 = .ok (.ireturn, 1) := by decide +kernel
theorem dX10_leastOf_0 : decode cX10_leastOf 0 = .ok (.iconst (-1), 1) := by decide +kernel
theorem dX10_leastOf_1 : decode cX10_leastOf 1 = .ok (.istore_n 3, 1) := by decide +kernel
theorem dX10_leastOf_2 : decode cX10_leastOf 2 = .ok (.iconst 0, 1) := by decide +kernel
theorem dX10_leastOf_3 : decode cX10_leastOf 3 = .ok (.istore 4, 2) := by decide +kernel
theorem dX10_leastOf_5 : decode cX10_leastOf 5 = .ok (.iload 4, 2) := by decide +kernel
theorem dX10_leastOf_7 : decode cX10_leastOf 7 = .ok (.aload_n 0, 1) := by decide +kernel
theorem dX10_leastOf_8 : decode cX10_leastOf 8 = .ok (.getfield 7, 3) := by decide +kernel
theorem dX10_leastOf_11 : decode cX10_leastOf 11 = .ok (.sipush 158, 3) := by decide +kernel
theorem dX10_leastOf_14 : decode cX10_leastOf 14 = .ok (.iaload, 1) := by decide +kernel
theorem dX10_leastOf_15 : decode cX10_leastOf 15 = .ok (.if_icmp .ge 78, 3) := by decide +kernel
theorem dX10_leastOf_18 : decode cX10_leastOf 18 = .ok (.aload_n 0, 1) := by decide +kernel
theorem dX10_leastOf_19 : decode cX10_leastOf 19 = .ok (.iload 4, 2) := by decide +kernel
theorem dX10_leastOf_21 : decode cX10_leastOf 21 = .ok (.iconst 1, 1) := by decide +kernel
theorem dX10_leastOf_22 : decode cX10_leastOf 22 = .ok (.invokevirtual 112, 3) := by decide +kernel
theorem dX10_leastOf_25 : decode cX10_leastOf 25 = .ok (.iload_n 1, 1) := by decide +kernel
theorem dX10_leastOf_26 : decode cX10_leastOf 26 = .ok (.if_icmp .ne 27, 3) := by decide +kernel
theorem dX10_leastOf_29 : decode cX10_leastOf 29 = .ok (.aload_n 0, 1) := by decide +kernel
theorem dX10_leastOf_30 : decode cX10_leastOf 30 = .ok (.iload 4, 2) := by decide +kernel
theorem dX10_leastOf_32 : decode cX10_leastOf 32 = .ok (.iconst 2, 1) := by decide +kernel
theorem dX10_leastOf_33 : decode cX10_leastOf 33 = .ok (.invokevirtual 112, 3) := by decide +kernel
theorem dX10_leastOf_36 : decode cX10_leastOf 36 = .ok (.iload_n 2, 1) := by decide +kernel
theorem dX10_leastOf_37 : decode cX10_leastOf 37 = .ok (.if_icmp .ne 16, 3) := by decide +kernel
theorem dX10_leastOf_40 : decode cX10_leastOf 40 = .ok (.aload_n 0, 1) := by decide +kernel
theorem dX10_leastOf_41 : decode cX10_leastOf 41 = .ok (.iload 4, 2) := by decide +kernel
theorem dX10_leastOf_43 : decode cX10_leastOf 43 = .ok (.invokevirtual 125, 3) := by decide +kernel
theorem dX10_leastOf_46 : decode cX10_leastOf 46 = .ok (.ifCond .le 7, 3) := by decide +kernel
theorem dX10_leastOf_49 : decode cX10_leastOf 49 = .ok (.iconst 1, 1) := by decide +kernel
theorem dX10_leastOf_50 : decode cX10_leastOf 50 = .ok (.goto 4, 3) := by decide +kernel
theorem dX10_leastOf_53 : decode cX10_leastOf 53 = .ok (.iconst 0, 1) := by decide +kernel
theorem dX10_leastOf_54 : decode cX10_leastOf 54 = .ok (.istore 5, 2) := by decide +kernel
theorem dX10_leastOf_56 : decode cX10_leastOf 56 = .ok (.iload 5, 2) := by decide +kernel
theorem dX10_leastOf_58 : decode cX10_leastOf 58 = .ok (.ifCond .eq 27, 3) := by decide +kernel
theorem dX10_leastOf_61 : decode cX10_leastOf 61 = .ok (.iload_n 3, 1) := by decide +kernel
theorem dX10_leastOf_62 : decode cX10_leastOf 62 = .ok (.iconst (-1), 1) := by decide +kernel
theorem dX10_leastOf_63 : decode cX10_leastOf 63 = .ok (.if_icmp .eq 17, 3) := by decide +kernel
theorem dX10_leastOf_66 : decode cX10_leastOf 66 = .ok (.aload_n 0, 1) := by decide +kernel
theorem dX10_leastOf_67 : decode cX10_leastOf 67 = .ok (.iload 4, 2) := by decide +kernel
theorem dX10_leastOf_69 : decode cX10_leastOf 69 = .ok (.invokevirtual 125, 3) := by decide +kernel
theorem dX10_leastOf_72 : decode cX10_leastOf 72 = .ok (.aload_n 0, 1) := by decide +kernel
theorem dX10_leastOf_73 : decode cX10_leastOf 73 = .ok (.iload_n 3, 1) := by decide +kernel
theorem dX10_leastOf_74 : decode cX10_leastOf 74 = .ok (.invokevirtual 125, 3) := by decide +kernel
theorem dX10_leastOf_77 : decode cX10_leastOf 77 = .ok (.if_icmp .ge 8, 3) := by decide +kernel
theorem dX10_leastOf_80 : decode cX10_leastOf 80 = .ok (.iload 4, 2) := by decide +kernel
theorem dX10_leastOf_82 : decode cX10_leastOf 82 = .ok (.goto 4, 3) := by decide +kernel
theorem dX10_leastOf_85 : decode cX10_leastOf 85 = .ok (.iload_n 3, 1) := by decide +kernel
theorem dX10_leastOf_86 : decode cX10_leastOf 86 = .ok (.istore_n 3, 1) := by decide +kernel
theorem dX10_leastOf_87 : decode cX10_leastOf 87 = .ok (.iinc 4 1, 3) := by decide +kernel
theorem dX10_leastOf_90 : decode cX10_leastOf 90 = .ok (.goto (-85), 3) := by decide +kernel
theorem dX10_leastOf_93 : decode cX10_leastOf 93 = .ok (.iload_n 3, 1) := by decide +kernel
theorem dX10_leastOf_94 : decode cX10_leastOf 94 = .ok (.ireturn, 1) := by decide +kernel
theorem dX10_cancel_0 : decode cX10_cancel 0 = .ok (.aload_n 0, 1) := by decide +kernel
theorem dX10_cancel_1 : decode cX10_cancel 1 = .ok (.invokevirtual 146, 3) := by decide +kernel
theorem dX10_cancel_4 : decode cX10_cancel 4 = .ok (.aload_n 0, 1) := by decide +kernel
theorem dX10_cancel_5 : decode cX10_cancel 5 = .ok (.getfield 138, 3) := by decide +kernel
theorem dX10_cancel_8 : decode cX10_cancel 8 = .ok (.ifCond .ne 10, 3) := by decide +kernel
theorem dX10_cancel_11 : decode cX10_cancel 11 = .ok (.aload_n 0, 1) := by decide +kernel
theorem dX10_cancel_12 : decode cX10_cancel 12 = .ok (.bipush (-3), 2) := by decide +kernel
theorem dX10_cancel_14 : decode cX10_cancel 14 = .ok (.invokevirtual 128, 3) := by decide +kernel
theorem dX10_cancel_17 : decode cX10_cancel 17 = .ok (.ireturn, 1) := by decide +kernel
theorem dX10_cancel_18 : decode cX10_cancel 18 = .ok (.iconst 0, 1) := by decide +kernel
theorem dX10_cancel_19 : decode cX10_cancel 19 = .ok (.istore_n 1, 1) := by decide +kernel
theorem dX10_cancel_20 : decode cX10_cancel 20 = .ok (.iload_n 1, 1) := by decide +kernel
theorem dX10_cancel_21 : decode cX10_cancel 21 = .ok (.aload_n 0, 1) := by decide +kernel
theorem dX10_cancel_22 : decode cX10_cancel 22 = .ok (.getfield 138, 3) := by decide +kernel
theorem dX10_cancel_25 : decode cX10_cancel 25 = .ok (.if_icmp .ge 36, 3) := by decide +kernel
theorem dX10_cancel_28 : decode cX10_cancel 28 = .ok (.aload_n 0, 1) := by decide +kernel
theorem dX10_cancel_29 : decode cX10_cancel 29 = .ok (.aload_n 0, 1) := by decide +kernel
theorem dX10_cancel_30 : decode cX10_cancel 30 = .ok (.aload_n 0, 1) := by decide +kernel
theorem dX10_cancel_31 : decode cX10_cancel 31 = .ok (.getfield 27, 3) := by decide +kernel
theorem dX10_cancel_34 : decode cX10_cancel 34 = .ok (.iload_n 1, 1) := by decide +kernel
theorem dX10_cancel_35 : decode cX10_cancel 35 = .ok (.iaload, 1) := by decide +kernel
theorem dX10_cancel_36 : decode cX10_cancel 36 = .ok (.aload_n 0, 1) := by decide +kernel
theorem dX10_cancel_37 : decode cX10_cancel 37 = .ok (.getfield 27, 3) := by decide +kernel
theorem dX10_cancel_40 : decode cX10_cancel 40 = .ok (.iload_n 1, 1) := by decide +kernel
theorem dX10_cancel_41 : decode cX10_cancel 41 = .ok (.iconst 1, 1) := by decide +kernel
theorem dX10_cancel_42 : decode cX10_cancel 42 = .ok (.iadd, 1) := by decide +kernel
theorem dX10_cancel_43 : decode cX10_cancel 43 = .ok (.aload_n 0, 1) := by decide +kernel
theorem dX10_cancel_44 : decode cX10_cancel 44 = .ok (.getfield 138, 3) := by decide +kernel
theorem dX10_cancel_47 : decode cX10_cancel 47 = .ok (.irem, 1) := by decide +kernel
theorem dX10_cancel_48 : decode cX10_cancel 48 = .ok (.iaload, 1) := by decide +kernel
theorem dX10_cancel_49 : decode cX10_cancel 49 = .ok (.invokevirtual 149, 3) := by decide +kernel
theorem dX10_cancel_52 : decode cX10_cancel 52 = .ok (.invokevirtual 131, 3) := by decide +kernel
theorem dX10_cancel_55 : decode cX10_cancel 55 = .ok (.iinc 1 1, 3) := by decide +kernel
theorem dX10_cancel_58 : decode cX10_cancel 58 = .ok (.goto (-38), 3) := by decide +kernel
theorem dX10_cancel_61 : decode cX10_cancel 61 = .ok (.aload_n 0, 1) := by decide +kernel
theorem dX10_cancel_62 : decode cX10_cancel 62 = .ok (.getfield 138, 3) := by decide +kernel
theorem dX10_cancel_65 : decode cX10_cancel 65 = .ok (.ireturn, 1) := by decide +kernel
theorem dX10_netOf_0 : decode cX10_netOf 0 = .ok (.iconst 0, 1) := by decide +kernel
theorem dX10_netOf_1 : decode cX10_netOf 1 = .ok (.istore_n 2, 1) := by decide +kernel
theorem dX10_netOf_2 : decode cX10_netOf 2 = .ok (.iconst 0, 1) := by decide +kernel
theorem dX10_netOf_3 : decode cX10_netOf 3 = .ok (.istore_n 3, 1) := by decide +kernel
theorem dX10_netOf_4 : decode cX10_netOf 4 = .ok (.iload_n 3, 1) := by decide +kernel
theorem dX10_netOf_5 : decode cX10_netOf 5 = .ok (.aload_n 0, 1) := by decide +kernel
theorem dX10_netOf_6 : decode cX10_netOf 6 = .ok (.invokevirtual 64, 3) := by decide +kernel
theorem dX10_netOf_9 : decode cX10_netOf 9 = .ok (.if_icmp .ge 34, 3) := by decide +kernel
theorem dX10_netOf_12 : decode cX10_netOf 12 = .ok (.iload_n 2, 1) := by decide +kernel
theorem dX10_netOf_13 : decode cX10_netOf 13 = .ok (.iload_n 3, 1) := by decide +kernel
theorem dX10_netOf_14 : decode cX10_netOf 14 = .ok (.iload_n 1, 1) := by decide +kernel
theorem dX10_netOf_15 : decode cX10_netOf 15 = .ok (.if_icmp .ne 7, 3) := by decide +kernel
theorem dX10_netOf_18 : decode cX10_netOf 18 = .ok (.iconst 0, 1) := by decide +kernel
theorem dX10_netOf_19 : decode cX10_netOf 19 = .ok (.goto 16, 3) := by decide +kernel
theorem dX10_netOf_22 : decode cX10_netOf 22 = .ok (.aload_n 0, 1) := by decide +kernel
theorem dX10_netOf_23 : decode cX10_netOf 23 = .ok (.iload_n 3, 1) := by decide +kernel
theorem dX10_netOf_24 : decode cX10_netOf 24 = .ok (.iload_n 1, 1) := by decide +kernel
theorem dX10_netOf_25 : decode cX10_netOf 25 = .ok (.invokevirtual 135, 3) := by decide +kernel
theorem dX10_netOf_28 : decode cX10_netOf 28 = .ok (.aload_n 0, 1) := by decide +kernel
theorem dX10_netOf_29 : decode cX10_netOf 29 = .ok (.iload_n 1, 1) := by decide +kernel
theorem dX10_netOf_30 : decode cX10_netOf 30 = .ok (.iload_n 3, 1) := by decide +kernel
theorem dX10_netOf_31 : decode cX10_netOf 31 = .ok (.invokevirtual 135, 3) := by decide +kernel
theorem dX10_netOf_34 : decode cX10_netOf 34 = .ok (.isub, 1) := by decide +kernel
theorem dX10_netOf_35 : decode cX10_netOf 35 = .ok (.iadd, 1) := by decide +kernel
theorem dX10_netOf_36 : decode cX10_netOf 36 = .ok (.istore_n 2, 1) := by decide +kernel
theorem dX10_netOf_37 : decode cX10_netOf 37 = .ok (.iinc 3 1, 3) := by decide +kernel
theorem dX10_netOf_40 : decode cX10_netOf 40 = .ok (.goto (-36), 3) := by decide +kernel
theorem dX10_netOf_43 : decode cX10_netOf 43 = .ok (.iload_n 2, 1) := by decide +kernel
theorem dX10_netOf_44 : decode cX10_netOf 44 = .ok (.ireturn, 1) := by decide +kernel
theorem dX10_net_0 : decode cX10_net 0 = .ok (.aload_n 0, 1) := by decide +kernel
theorem dX10_net_1 : decode cX10_net 1 = .ok (.iload_n 1, 1) := by decide +kernel
theorem dX10_net_2 : decode cX10_net 2 = .ok (.invokevirtual 84, 3) := by decide +kernel
theorem dX10_net_5 : decode cX10_net 5 = .ok (.ifCond .eq 11, 3) := by decide +kernel
theorem dX10_net_8 : decode cX10_net 8 = .ok (.aload_n 0, 1) := by decide +kernel
theorem dX10_net_9 : decode cX10_net 9 = .ok (.iload_n 1, 1) := by decide +kernel
theorem dX10_net_10 : decode cX10_net 10 = .ok (.invokevirtual 152, 3) := by decide +kernel
theorem dX10_net_13 : decode cX10_net 13 = .ok (.goto 10, 3) := by decide +kernel
theorem dX10_net_16 : decode cX10_net 16 = .ok (.aload_n 0, 1) := by decide +kernel
theorem dX10_net_17 : decode cX10_net 17 = .ok (.sipush (-10000), 3) := by decide +kernel
theorem dX10_net_20 : decode cX10_net 20 = .ok (.invokevirtual 80, 3) := by decide +kernel
theorem dX10_net_23 : decode cX10_net 23 = .ok (.ireturn, 1) := by decide +kernel
theorem dX10_fewest_0 : decode cX10_fewest 0 = .ok (.iconst 1, 1) := by decide +kernel
theorem dX10_fewest_1 : decode cX10_fewest 1 = .ok (.aload_n 0, 1) := by decide +kernel
theorem dX10_fewest_2 : decode cX10_fewest 2 = .ok (.invokevirtual 64, 3) := by decide +kernel
theorem dX10_fewest_5 : decode cX10_fewest 5 = .ok (.ishl, 1) := by decide +kernel
theorem dX10_fewest_6 : decode cX10_fewest 6 = .ok (.iconst 1, 1) := by decide +kernel
theorem dX10_fewest_7 : decode cX10_fewest 7 = .ok (.isub, 1) := by decide +kernel
theorem dX10_fewest_8 : decode cX10_fewest 8 = .ok (.istore_n 1, 1) := by decide +kernel
theorem dX10_fewest_9 : decode cX10_fewest 9 = .ok (.iconst 0, 1) := by decide +kernel
theorem dX10_fewest_10 : decode cX10_fewest 10 = .ok (.istore_n 2, 1) := by decide +kernel
theorem dX10_fewest_11 : decode cX10_fewest 11 = .ok (.iload_n 2, 1) := by decide +kernel
theorem dX10_fewest_12 : decode cX10_fewest 12 = .ok (.iload_n 1, 1) := by decide +kernel
theorem dX10_fewest_13 : decode cX10_fewest 13 = .ok (.if_icmp .gt 59, 3) := by decide +kernel
theorem dX10_fewest_16 : decode cX10_fewest 16 = .ok (.aload_n 0, 1) := by decide +kernel
theorem dX10_fewest_17 : decode cX10_fewest 17 = .ok (.getfield 30, 3) := by decide +kernel
theorem dX10_fewest_20 : decode cX10_fewest 20 = .ok (.iload_n 2, 1) := by decide +kernel
theorem dX10_fewest_21 : decode cX10_fewest 21 = .ok (.iconst 0, 1) := by decide +kernel
theorem dX10_fewest_22 : decode cX10_fewest 22 = .ok (.iastore, 1) := by decide +kernel
theorem dX10_fewest_23 : decode cX10_fewest 23 = .ok (.iconst 0, 1) := by decide +kernel
theorem dX10_fewest_24 : decode cX10_fewest 24 = .ok (.istore_n 3, 1) := by decide +kernel
theorem dX10_fewest_25 : decode cX10_fewest 25 = .ok (.iload_n 3, 1) := by decide +kernel
theorem dX10_fewest_26 : decode cX10_fewest 26 = .ok (.aload_n 0, 1) := by decide +kernel
theorem dX10_fewest_27 : decode cX10_fewest 27 = .ok (.invokevirtual 64, 3) := by decide +kernel
theorem dX10_fewest_30 : decode cX10_fewest 30 = .ok (.if_icmp .ge 36, 3) := by decide +kernel
theorem dX10_fewest_33 : decode cX10_fewest 33 = .ok (.aload_n 0, 1) := by decide +kernel
theorem dX10_fewest_34 : decode cX10_fewest 34 = .ok (.getfield 30, 3) := by decide +kernel
theorem dX10_fewest_37 : decode cX10_fewest 37 = .ok (.iload_n 2, 1) := by decide +kernel
theorem dX10_fewest_38 : decode cX10_fewest 38 = .ok (.dup2, 1) := by decide +kernel
theorem dX10_fewest_39 : decode cX10_fewest 39 = .ok (.iaload, 1) := by decide +kernel
theorem dX10_fewest_40 : decode cX10_fewest 40 = .ok (.iload_n 2, 1) := by decide +kernel
theorem dX10_fewest_41 : decode cX10_fewest 41 = .ok (.iload_n 3, 1) := by decide +kernel
theorem dX10_fewest_42 : decode cX10_fewest 42 = .ok (.ishr, 1) := by decide +kernel
theorem dX10_fewest_43 : decode cX10_fewest 43 = .ok (.iconst 1, 1) := by decide +kernel
theorem dX10_fewest_44 : decode cX10_fewest 44 = .ok (.iand, 1) := by decide +kernel
theorem dX10_fewest_45 : decode cX10_fewest 45 = .ok (.iconst 1, 1) := by decide +kernel
theorem dX10_fewest_46 : decode cX10_fewest 46 = .ok (.if_icmp .ne 11, 3) := by decide +kernel
theorem dX10_fewest_49 : decode cX10_fewest 49 = .ok (.aload_n 0, 1) := by decide +kernel
theorem dX10_fewest_50 : decode cX10_fewest 50 = .ok (.iload_n 3, 1) := by decide +kernel
theorem dX10_fewest_51 : decode cX10_fewest 51 = .ok (.invokevirtual 152, 3) := by decide +kernel
theorem dX10_fewest_54 : decode cX10_fewest 54 = .ok (.goto 4, 3) := by decide +kernel
theorem dX10_fewest_57 : decode cX10_fewest 57 = .ok (.iconst 0, 1) := by decide +kernel
theorem dX10_fewest_58 : decode cX10_fewest 58 = .ok (.iadd, 1) := by decide +kernel
theorem dX10_fewest_59 : decode cX10_fewest 59 = .ok (.iastore, 1) := by decide +kernel
theorem dX10_fewest_60 : decode cX10_fewest 60 = .ok (.iinc 3 1, 3) := by decide +kernel
theorem dX10_fewest_63 : decode cX10_fewest 63 = .ok (.goto (-38), 3) := by decide +kernel
theorem dX10_fewest_66 : decode cX10_fewest 66 = .ok (.iinc 2 1, 3) := by decide +kernel
theorem dX10_fewest_69 : decode cX10_fewest 69 = .ok (.goto (-58), 3) := by decide +kernel
theorem dX10_fewest_72 : decode cX10_fewest 72 = .ok (.aload_n 0, 1) := by decide +kernel
theorem dX10_fewest_73 : decode cX10_fewest 73 = .ok (.getfield 33, 3) := by decide +kernel
theorem dX10_fewest_76 : decode cX10_fewest 76 = .ok (.iconst 0, 1) := by decide +kernel
theorem dX10_fewest_77 : decode cX10_fewest 77 = .ok (.iconst 0, 1) := by decide +kernel
theorem dX10_fewest_78 : decode cX10_fewest 78 = .ok (.iastore, 1) := by decide +kernel
theorem dX10_fewest_79 : decode cX10_fewest 79 = .ok (.iconst 1, 1) := by decide +kernel
theorem dX10_fewest_80 : decode cX10_fewest 80 = .ok (.istore_n 2, 1) := by decide +kernel
theorem dX10_fewest_81 : decode cX10_fewest 81 = .ok (.iload_n 2, 1) := by decide +kernel
theorem dX10_fewest_82 : decode cX10_fewest 82 = .ok (.iload_n 1, 1) := by decide +kernel
theorem dX10_fewest_83 : decode cX10_fewest 83 = .ok (.if_icmp .gt 84, 3) := by decide +kernel
theorem dX10_fewest_86 : decode cX10_fewest 86 = .ok (.iconst 0, 1) := by decide +kernel
theorem dX10_fewest_87 : decode cX10_fewest 87 = .ok (.istore_n 3, 1) := by decide +kernel
theorem dX10_fewest_88 : decode cX10_fewest 88 = .ok (.iconst 1, 1) := by decide +kernel
theorem dX10_fewest_89 : decode cX10_fewest 89 = .ok (.istore 4, 2) := by decide +kernel
theorem dX10_fewest_91 : decode cX10_fewest 91 = .ok (.iload 4, 2) := by decide +kernel
theorem dX10_fewest_93 : decode cX10_fewest 93 = .ok (.iload_n 2, 1) := by decide +kernel
theorem dX10_fewest_94 : decode cX10_fewest 94 = .ok (.if_icmp .gt 60, 3) := by decide +kernel
theorem dX10_fewest_97 : decode cX10_fewest 97 = .ok (.iload 4, 2) := by decide +kernel
theorem dX10_fewest_99 : decode cX10_fewest 99 = .ok (.iload_n 2, 1) := by decide +kernel
theorem dX10_fewest_100 : decode cX10_fewest 100 = .ok (.iconst (-1), 1) := by decide +kernel
theorem dX10_fewest_101 : decode cX10_fewest 101 = .ok (.ixor, 1) := by decide +kernel
theorem dX10_fewest_102 : decode cX10_fewest 102 = .ok (.iand, 1) := by decide +kernel
theorem dX10_fewest_103 : decode cX10_fewest 103 = .ok (.ifCond .ne 29, 3) := by decide +kernel
theorem dX10_fewest_106 : decode cX10_fewest 106 = .ok (.aload_n 0, 1) := by decide +kernel
theorem dX10_fewest_107 : decode cX10_fewest 107 = .ok (.getfield 30, 3) := by decide +kernel
theorem dX10_fewest_110 : decode cX10_fewest 110 = .ok (.iload 4, 2) := by decide +kernel
theorem dX10_fewest_112 : decode cX10_fewest 112 = .ok (.iaload, 1) := by decide +kernel
theorem dX10_fewest_113 : decode cX10_fewest 113 = .ok (.ifCond .ne 19, 3) := by decide +kernel
theorem dX10_fewest_116 : decode cX10_fewest 116 = .ok (.aload_n 0, 1) := by decide +kernel
theorem dX10_fewest_117 : decode cX10_fewest 117 = .ok (.getfield 33, 3) := by decide +kernel
theorem dX10_fewest_120 : decode cX10_fewest 120 = .ok (.iload_n 2, 1) := by decide +kernel
theorem dX10_fewest_121 : decode cX10_fewest 121 = .ok (.iload 4, 2) := by decide +kernel
theorem dX10_fewest_123 : decode cX10_fewest 123 = .ok (.iconst (-1), 1) := by decide +kernel
theorem dX10_fewest_124 : decode cX10_fewest 124 = .ok (.ixor, 1) := by decide +kernel
theorem dX10_fewest_125 : decode cX10_fewest 125 = .ok (.iand, 1) := by decide +kernel
theorem dX10_fewest_126 : decode cX10_fewest 126 = .ok (.iaload, 1) := by decide +kernel
theorem dX10_fewest_127 : decode cX10_fewest 127 = .ok (.iconst 1, 1) := by decide +kernel
theorem dX10_fewest_128 : decode cX10_fewest 128 = .ok (.iadd, 1) := by decide +kernel
theorem dX10_fewest_129 : decode cX10_fewest 129 = .ok (.goto 4, 3) := by decide +kernel
theorem dX10_fewest_132 : decode cX10_fewest 132 = .ok (.iconst 0, 1) := by decide +kernel
theorem dX10_fewest_133 : decode cX10_fewest 133 = .ok (.istore 5, 2) := by decide +kernel
theorem dX10_fewest_135 : decode cX10_fewest 135 = .ok (.iload 5, 2) := by decide +kernel
theorem dX10_fewest_137 : decode cX10_fewest 137 = .ok (.iload_n 3, 1) := by decide +kernel
theorem dX10_fewest_138 : decode cX10_fewest 138 = .ok (.if_icmp .le 8, 3) := by decide +kernel
theorem dX10_fewest_141 : decode cX10_fewest 141 = .ok (.iload 5, 2) := by decide +kernel
theorem dX10_fewest_143 : decode cX10_fewest 143 = .ok (.goto 4, 3) := by decide +kernel
theorem dX10_fewest_146 : decode cX10_fewest 146 = .ok (.iload_n 3, 1) := by decide +kernel
theorem dX10_fewest_147 : decode cX10_fewest 147 = .ok (.istore_n 3, 1) := by decide +kernel
theorem dX10_fewest_148 : decode cX10_fewest 148 = .ok (.iinc 4 1, 3) := by decide +kernel
theorem dX10_fewest_151 : decode cX10_fewest 151 = .ok (.goto (-60), 3) := by decide +kernel
theorem dX10_fewest_154 : decode cX10_fewest 154 = .ok (.aload_n 0, 1) := by decide +kernel
theorem dX10_fewest_155 : decode cX10_fewest 155 = .ok (.getfield 33, 3) := by decide +kernel
theorem dX10_fewest_158 : decode cX10_fewest 158 = .ok (.iload_n 2, 1) := by decide +kernel
theorem dX10_fewest_159 : decode cX10_fewest 159 = .ok (.iload_n 3, 1) := by decide +kernel
theorem dX10_fewest_160 : decode cX10_fewest 160 = .ok (.iastore, 1) := by decide +kernel
theorem dX10_fewest_161 : decode cX10_fewest 161 = .ok (.iinc 2 1, 3) := by decide +kernel
theorem dX10_fewest_164 : decode cX10_fewest 164 = .ok (.goto (-83), 3) := by decide +kernel
theorem dX10_fewest_167 : decode cX10_fewest 167 = .ok (.aload_n 0, 1) := by decide +kernel
theorem dX10_fewest_168 : decode cX10_fewest 168 = .ok (.invokevirtual 64, 3) := by decide +kernel
theorem dX10_fewest_171 : decode cX10_fewest 171 = .ok (.aload_n 0, 1) := by decide +kernel
theorem dX10_fewest_172 : decode cX10_fewest 172 = .ok (.getfield 33, 3) := by decide +kernel
theorem dX10_fewest_175 : decode cX10_fewest 175 = .ok (.iload_n 1, 1) := by decide +kernel
theorem dX10_fewest_176 : decode cX10_fewest 176 = .ok (.iaload, 1) := by decide +kernel
theorem dX10_fewest_177 : decode cX10_fewest 177 = .ok (.isub, 1) := by decide +kernel
theorem dX10_fewest_178 : decode cX10_fewest 178 = .ok (.ireturn, 1) := by decide +kernel
theorem dX10_need0_0 : decode cX10_need0 0 = .ok (.aload_n 0, 1) := by decide +kernel
theorem dX10_need0_1 : decode cX10_need0 1 = .ok (.getfield 7, 3) := by decide +kernel
theorem dX10_need0_4 : decode cX10_need0 4 = .ok (.bipush 98, 2) := by decide +kernel
theorem dX10_need0_6 : decode cX10_need0 6 = .ok (.iconst 4, 1) := by decide +kernel
theorem dX10_need0_7 : decode cX10_need0 7 = .ok (.iload_n 1, 1) := by decide +kernel
theorem dX10_need0_8 : decode cX10_need0 8 = .ok (.imul, 1) := by decide +kernel
theorem dX10_need0_9 : decode cX10_need0 9 = .ok (.iadd, 1) := by decide +kernel
theorem dX10_need0_10 : decode cX10_need0 10 = .ok (.iload_n 2, 1) := by decide +kernel
theorem dX10_need0_11 : decode cX10_need0 11 = .ok (.iadd, 1) := by decide +kernel
theorem dX10_need0_12 : decode cX10_need0 12 = .ok (.iaload, 1) := by decide +kernel
theorem dX10_need0_13 : decode cX10_need0 13 = .ok (.ireturn, 1) := by decide +kernel
theorem dX10_mayMeet_0 : decode cX10_mayMeet 0 = .ok (.aload_n 0, 1) := by decide +kernel
theorem dX10_mayMeet_1 : decode cX10_mayMeet 1 = .ok (.iload_n 2, 1) := by decide +kernel
theorem dX10_mayMeet_2 : decode cX10_mayMeet 2 = .ok (.iconst 2, 1) := by decide +kernel
theorem dX10_mayMeet_3 : decode cX10_mayMeet 3 = .ok (.invokevirtual 112, 3) := by decide +kernel
theorem dX10_mayMeet_6 : decode cX10_mayMeet 6 = .ok (.aload_n 0, 1) := by decide +kernel
theorem dX10_mayMeet_7 : decode cX10_mayMeet 7 = .ok (.iload_n 1, 1) := by decide +kernel
theorem dX10_mayMeet_8 : decode cX10_mayMeet 8 = .ok (.iconst 0, 1) := by decide +kernel
theorem dX10_mayMeet_9 : decode cX10_mayMeet 9 = .ok (.invokevirtual 155, 3) := by decide +kernel
theorem dX10_mayMeet_12 : decode cX10_mayMeet 12 = .ok (.if_icmp .ne 22, 3) := by decide +kernel
theorem dX10_mayMeet_15 : decode cX10_mayMeet 15 = .ok (.aload_n 0, 1) := by decide +kernel
theorem dX10_mayMeet_16 : decode cX10_mayMeet 16 = .ok (.iload_n 2, 1) := by decide +kernel
theorem dX10_mayMeet_17 : decode cX10_mayMeet 17 = .ok (.iconst 3, 1) := by decide +kernel
theorem dX10_mayMeet_18 : decode cX10_mayMeet 18 = .ok (.invokevirtual 112, 3) := by decide +kernel
theorem dX10_mayMeet_21 : decode cX10_mayMeet 21 = .ok (.aload_n 0, 1) := by decide +kernel
theorem dX10_mayMeet_22 : decode cX10_mayMeet 22 = .ok (.iload_n 1, 1) := by decide +kernel
theorem dX10_mayMeet_23 : decode cX10_mayMeet 23 = .ok (.iconst 1, 1) := by decide +kernel
theorem dX10_mayMeet_24 : decode cX10_mayMeet 24 = .ok (.invokevirtual 155, 3) := by decide +kernel
theorem dX10_mayMeet_27 : decode cX10_mayMeet 27 = .ok (.if_icmp .ne 7, 3) := by decide +kernel
theorem dX10_mayMeet_30 : decode cX10_mayMeet 30 = .ok (.iconst 1, 1) := by decide +kernel
theorem dX10_mayMeet_31 : decode cX10_mayMeet 31 = .ok (.goto 4, 3) := by decide +kernel
theorem dX10_mayMeet_34 : decode cX10_mayMeet 34 = .ok (.iconst 0, 1) := by decide +kernel
theorem dX10_mayMeet_35 : decode cX10_mayMeet 35 = .ok (.istore_n 3, 1) := by decide +kernel
theorem dX10_mayMeet_36 : decode cX10_mayMeet 36 = .ok (.iload_n 3, 1) := by decide +kernel
theorem dX10_mayMeet_37 : decode cX10_mayMeet 37 = .ok (.ifCond .eq 27, 3) := by decide +kernel
theorem dX10_mayMeet_40 : decode cX10_mayMeet 40 = .ok (.aload_n 0, 1) := by decide +kernel
theorem dX10_mayMeet_41 : decode cX10_mayMeet 41 = .ok (.iload_n 2, 1) := by decide +kernel
theorem dX10_mayMeet_42 : decode cX10_mayMeet 42 = .ok (.aload_n 0, 1) := by decide +kernel
theorem dX10_mayMeet_43 : decode cX10_mayMeet 43 = .ok (.iload_n 1, 1) := by decide +kernel
theorem dX10_mayMeet_44 : decode cX10_mayMeet 44 = .ok (.iconst 3, 1) := by decide +kernel
theorem dX10_mayMeet_45 : decode cX10_mayMeet 45 = .ok (.invokevirtual 155, 3) := by decide +kernel
theorem dX10_mayMeet_48 : decode cX10_mayMeet 48 = .ok (.invokevirtual 119, 3) := by decide +kernel
theorem dX10_mayMeet_51 : decode cX10_mayMeet 51 = .ok (.aload_n 0, 1) := by decide +kernel
theorem dX10_mayMeet_52 : decode cX10_mayMeet 52 = .ok (.iload_n 1, 1) := by decide +kernel
theorem dX10_mayMeet_53 : decode cX10_mayMeet 53 = .ok (.iconst 2, 1) := by decide +kernel
theorem dX10_mayMeet_54 : decode cX10_mayMeet 54 = .ok (.invokevirtual 155, 3) := by decide +kernel
theorem dX10_mayMeet_57 : decode cX10_mayMeet 57 = .ok (.if_icmp .lt 7, 3) := by decide +kernel
theorem dX10_mayMeet_60 : decode cX10_mayMeet 60 = .ok (.iconst 1, 1) := by decide +kernel
theorem dX10_mayMeet_61 : decode cX10_mayMeet 61 = .ok (.goto 4, 3) := by decide +kernel
theorem dX10_mayMeet_64 : decode cX10_mayMeet 64 = .ok (.iconst 0, 1) := by decide +kernel
theorem dX10_mayMeet_65 : decode cX10_mayMeet 65 = .ok (.ireturn, 1) := by decide +kernel
theorem dX10_fits_0 : decode cX10_fits 0 = .ok (.aload_n 0, 1) := by decide +kernel
theorem dX10_fits_1 : decode cX10_fits 1 = .ok (.getfield 36, 3) := by decide +kernel
theorem dX10_fits_4 : decode cX10_fits 4 = .ok (.iload_n 1, 1) := by decide +kernel
theorem dX10_fits_5 : decode cX10_fits 5 = .ok (.iaload, 1) := by decide +kernel
theorem dX10_fits_6 : decode cX10_fits 6 = .ok (.istore_n 2, 1) := by decide +kernel
theorem dX10_fits_7 : decode cX10_fits 7 = .ok (.iload_n 2, 1) := by decide +kernel
theorem dX10_fits_8 : decode cX10_fits 8 = .ok (.aload_n 0, 1) := by decide +kernel
theorem dX10_fits_9 : decode cX10_fits 9 = .ok (.getfield 7, 3) := by decide +kernel
theorem dX10_fits_12 : decode cX10_fits 12 = .ok (.sipush 158, 3) := by decide +kernel
theorem dX10_fits_15 : decode cX10_fits 15 = .ok (.iaload, 1) := by decide +kernel
theorem dX10_fits_16 : decode cX10_fits 16 = .ok (.if_icmp .ne 5, 3) := by decide +kernel
theorem dX10_fits_19 : decode cX10_fits 19 = .ok (.iconst 1, 1) := by decide +kernel
theorem dX10_fits_20 : decode cX10_fits 20 = .ok (.ireturn, 1) := by decide +kernel
theorem dX10_fits_21 : decode cX10_fits 21 = .ok (.aload_n 0, 1) := by decide +kernel
theorem dX10_fits_22 : decode cX10_fits 22 = .ok (.iload_n 1, 1) := by decide +kernel
theorem dX10_fits_23 : decode cX10_fits 23 = .ok (.iload_n 2, 1) := by decide +kernel
theorem dX10_fits_24 : decode cX10_fits 24 = .ok (.invokevirtual 158, 3) := by decide +kernel
theorem dX10_fits_27 : decode cX10_fits 27 = .ok (.ifCond .ne 5, 3) := by decide +kernel
theorem dX10_fits_30 : decode cX10_fits 30 = .ok (.iconst 0, 1) := by decide +kernel
theorem dX10_fits_31 : decode cX10_fits 31 = .ok (.ireturn, 1) := by decide +kernel
theorem dX10_fits_32 : decode cX10_fits 32 = .ok (.aload_n 0, 1) := by decide +kernel
theorem dX10_fits_33 : decode cX10_fits 33 = .ok (.iload_n 1, 1) := by decide +kernel
theorem dX10_fits_34 : decode cX10_fits 34 = .ok (.iconst 3, 1) := by decide +kernel
theorem dX10_fits_35 : decode cX10_fits 35 = .ok (.invokevirtual 155, 3) := by decide +kernel
theorem dX10_fits_38 : decode cX10_fits 38 = .ok (.istore_n 3, 1) := by decide +kernel
theorem dX10_fits_39 : decode cX10_fits 39 = .ok (.aload_n 0, 1) := by decide +kernel
theorem dX10_fits_40 : decode cX10_fits 40 = .ok (.iload_n 2, 1) := by decide +kernel
theorem dX10_fits_41 : decode cX10_fits 41 = .ok (.iload_n 3, 1) := by decide +kernel
theorem dX10_fits_42 : decode cX10_fits 42 = .ok (.invokevirtual 119, 3) := by decide +kernel
theorem dX10_fits_45 : decode cX10_fits 45 = .ok (.istore 4, 2) := by decide +kernel
theorem dX10_fits_47 : decode cX10_fits 47 = .ok (.iconst 0, 1) := by decide +kernel
theorem dX10_fits_48 : decode cX10_fits 48 = .ok (.istore 5, 2) := by decide +kernel
theorem dX10_fits_50 : decode cX10_fits 50 = .ok (.iload 5, 2) := by decide +kernel
theorem dX10_fits_52 : decode cX10_fits 52 = .ok (.iload_n 1, 1) := by decide +kernel
theorem dX10_fits_53 : decode cX10_fits 53 = .ok (.if_icmp .ge 78, 3) := by decide +kernel
theorem dX10_fits_56 : decode cX10_fits 56 = .ok (.aload_n 0, 1) := by decide +kernel
theorem dX10_fits_57 : decode cX10_fits 57 = .ok (.getfield 36, 3) := by decide +kernel
theorem dX10_fits_60 : decode cX10_fits 60 = .ok (.iload 5, 2) := by decide +kernel
theorem dX10_fits_62 : decode cX10_fits 62 = .ok (.iaload, 1) := by decide +kernel
theorem dX10_fits_63 : decode cX10_fits 63 = .ok (.istore 6, 2) := by decide +kernel
theorem dX10_fits_65 : decode cX10_fits 65 = .ok (.iload 6, 2) := by decide +kernel
theorem dX10_fits_67 : decode cX10_fits 67 = .ok (.iload_n 2, 1) := by decide +kernel
theorem dX10_fits_68 : decode cX10_fits 68 = .ok (.if_icmp .ne 5, 3) := by decide +kernel
theorem dX10_fits_71 : decode cX10_fits 71 = .ok (.iconst 0, 1) := by decide +kernel
theorem dX10_fits_72 : decode cX10_fits 72 = .ok (.ireturn, 1) := by decide +kernel
theorem dX10_fits_73 : decode cX10_fits 73 = .ok (.iload 6, 2) := by decide +kernel
theorem dX10_fits_75 : decode cX10_fits 75 = .ok (.aload_n 0, 1) := by decide +kernel
theorem dX10_fits_76 : decode cX10_fits 76 = .ok (.getfield 7, 3) := by decide +kernel
theorem dX10_fits_79 : decode cX10_fits 79 = .ok (.sipush 158, 3) := by decide +kernel
theorem dX10_fits_82 : decode cX10_fits 82 = .ok (.iaload, 1) := by decide +kernel
theorem dX10_fits_83 : decode cX10_fits 83 = .ok (.if_icmp .ge 42, 3) := by decide +kernel
theorem dX10_fits_86 : decode cX10_fits 86 = .ok (.aload_n 0, 1) := by decide +kernel
theorem dX10_fits_87 : decode cX10_fits 87 = .ok (.iload 5, 2) := by decide +kernel
theorem dX10_fits_89 : decode cX10_fits 89 = .ok (.iconst 3, 1) := by decide +kernel
theorem dX10_fits_90 : decode cX10_fits 90 = .ok (.invokevirtual 155, 3) := by decide +kernel
theorem dX10_fits_93 : decode cX10_fits 93 = .ok (.iload_n 3, 1) := by decide +kernel
theorem dX10_fits_94 : decode cX10_fits 94 = .ok (.if_icmp .ne 31, 3) := by decide +kernel
theorem dX10_fits_97 : decode cX10_fits 97 = .ok (.aload_n 0, 1) := by decide +kernel
theorem dX10_fits_98 : decode cX10_fits 98 = .ok (.iload 6, 2) := by decide +kernel
theorem dX10_fits_100 : decode cX10_fits 100 = .ok (.iconst 1, 1) := by decide +kernel
theorem dX10_fits_101 : decode cX10_fits 101 = .ok (.invokevirtual 112, 3) := by decide +kernel
theorem dX10_fits_104 : decode cX10_fits 104 = .ok (.aload_n 0, 1) := by decide +kernel
theorem dX10_fits_105 : decode cX10_fits 105 = .ok (.iload_n 2, 1) := by decide +kernel
theorem dX10_fits_106 : decode cX10_fits 106 = .ok (.iconst 1, 1) := by decide +kernel
theorem dX10_fits_107 : decode cX10_fits 107 = .ok (.invokevirtual 112, 3) := by decide +kernel
theorem dX10_fits_110 : decode cX10_fits 110 = .ok (.if_icmp .ne 15, 3) := by decide +kernel
theorem dX10_fits_113 : decode cX10_fits 113 = .ok (.iload 4, 2) := by decide +kernel
theorem dX10_fits_115 : decode cX10_fits 115 = .ok (.aload_n 0, 1) := by decide +kernel
theorem dX10_fits_116 : decode cX10_fits 116 = .ok (.iload 6, 2) := by decide +kernel
theorem dX10_fits_118 : decode cX10_fits 118 = .ok (.iload_n 3, 1) := by decide +kernel
theorem dX10_fits_119 : decode cX10_fits 119 = .ok (.invokevirtual 119, 3) := by decide +kernel
theorem dX10_fits_122 : decode cX10_fits 122 = .ok (.iadd, 1) := by decide +kernel
theorem dX10_fits_123 : decode cX10_fits 123 = .ok (.istore 4, 2) := by decide +kernel
theorem dX10_fits_125 : decode cX10_fits 125 = .ok (.iinc 5 1, 3) := by decide +kernel
theorem dX10_fits_128 : decode cX10_fits 128 = .ok (.goto (-78), 3) := by decide +kernel
theorem dX10_fits_131 : decode cX10_fits 131 = .ok (.iload 4, 2) := by decide +kernel
theorem dX10_fits_133 : decode cX10_fits 133 = .ok (.aload_n 0, 1) := by decide +kernel
theorem dX10_fits_134 : decode cX10_fits 134 = .ok (.getfield 7, 3) := by decide +kernel
theorem dX10_fits_137 : decode cX10_fits 137 = .ok (.iconst 2, 1) := by decide +kernel
theorem dX10_fits_138 : decode cX10_fits 138 = .ok (.aload_n 0, 1) := by decide +kernel
theorem dX10_fits_139 : decode cX10_fits 139 = .ok (.iload_n 2, 1) := by decide +kernel
theorem dX10_fits_140 : decode cX10_fits 140 = .ok (.iconst 1, 1) := by decide +kernel
theorem dX10_fits_141 : decode cX10_fits 141 = .ok (.invokevirtual 112, 3) := by decide +kernel
theorem dX10_fits_144 : decode cX10_fits 144 = .ok (.iadd, 1) := by decide +kernel
theorem dX10_fits_145 : decode cX10_fits 145 = .ok (.iaload, 1) := by decide +kernel
theorem dX10_fits_146 : decode cX10_fits 146 = .ok (.if_icmp .gt 7, 3) := by decide +kernel
theorem dX10_fits_149 : decode cX10_fits 149 = .ok (.iconst 1, 1) := by decide +kernel
theorem dX10_fits_150 : decode cX10_fits 150 = .ok (.goto 4, 3) := by decide +kernel
theorem dX10_fits_153 : decode cX10_fits 153 = .ok (.iconst 0, 1) := by decide +kernel
theorem dX10_fits_154 : decode cX10_fits 154 = .ok (.ireturn, 1) := by decide +kernel
theorem dX10_look_0 : decode cX10_look 0 = .ok (.iconst 0, 1) := by decide +kernel
theorem dX10_look_1 : decode cX10_look 1 = .ok (.istore_n 1, 1) := by decide +kernel
theorem dX10_look_2 : decode cX10_look 2 = .ok (.iconst 0, 1) := by decide +kernel
theorem dX10_look_3 : decode cX10_look 3 = .ok (.istore_n 2, 1) := by decide +kernel
theorem dX10_look_4 : decode cX10_look 4 = .ok (.iconst 0, 1) := by decide +kernel
theorem dX10_look_5 : decode cX10_look 5 = .ok (.istore_n 3, 1) := by decide +kernel
theorem dX10_look_6 : decode cX10_look 6 = .ok (.iload_n 3, 1) := by decide +kernel
theorem dX10_look_7 : decode cX10_look 7 = .ok (.aload_n 0, 1) := by decide +kernel
theorem dX10_look_8 : decode cX10_look 8 = .ok (.getfield 7, 3) := by decide +kernel
theorem dX10_look_11 : decode cX10_look 11 = .ok (.sipush 159, 3) := by decide +kernel
theorem dX10_look_14 : decode cX10_look 14 = .ok (.iaload, 1) := by decide +kernel
theorem dX10_look_15 : decode cX10_look 15 = .ok (.if_icmp .ge 48, 3) := by decide +kernel
theorem dX10_look_18 : decode cX10_look 18 = .ok (.aload_n 0, 1) := by decide +kernel
theorem dX10_look_19 : decode cX10_look 19 = .ok (.getfield 36, 3) := by decide +kernel
theorem dX10_look_22 : decode cX10_look 22 = .ok (.iload_n 3, 1) := by decide +kernel
theorem dX10_look_23 : decode cX10_look 23 = .ok (.iaload, 1) := by decide +kernel
theorem dX10_look_24 : decode cX10_look 24 = .ok (.aload_n 0, 1) := by decide +kernel
theorem dX10_look_25 : decode cX10_look 25 = .ok (.getfield 7, 3) := by decide +kernel
theorem dX10_look_28 : decode cX10_look 28 = .ok (.sipush 158, 3) := by decide +kernel
theorem dX10_look_31 : decode cX10_look 31 = .ok (.iaload, 1) := by decide +kernel
theorem dX10_look_32 : decode cX10_look 32 = .ok (.if_icmp .ge 25, 3) := by decide +kernel
theorem dX10_look_35 : decode cX10_look 35 = .ok (.iinc 1 1, 3) := by decide +kernel
theorem dX10_look_38 : decode cX10_look 38 = .ok (.iload_n 2, 1) := by decide +kernel
theorem dX10_look_39 : decode cX10_look 39 = .ok (.aload_n 0, 1) := by decide +kernel
theorem dX10_look_40 : decode cX10_look 40 = .ok (.aload_n 0, 1) := by decide +kernel
theorem dX10_look_41 : decode cX10_look 41 = .ok (.getfield 36, 3) := by decide +kernel
theorem dX10_look_44 : decode cX10_look 44 = .ok (.iload_n 3, 1) := by decide +kernel
theorem dX10_look_45 : decode cX10_look 45 = .ok (.iaload, 1) := by decide +kernel
theorem dX10_look_46 : decode cX10_look 46 = .ok (.aload_n 0, 1) := by decide +kernel
theorem dX10_look_47 : decode cX10_look 47 = .ok (.iload_n 3, 1) := by decide +kernel
theorem dX10_look_48 : decode cX10_look 48 = .ok (.iconst 3, 1) := by decide +kernel
theorem dX10_look_49 : decode cX10_look 49 = .ok (.invokevirtual 155, 3) := by decide +kernel
theorem dX10_look_52 : decode cX10_look 52 = .ok (.invokevirtual 119, 3) := by decide +kernel
theorem dX10_look_55 : decode cX10_look 55 = .ok (.iadd, 1) := by decide +kernel
theorem dX10_look_56 : decode cX10_look 56 = .ok (.istore_n 2, 1) := by decide +kernel
theorem dX10_look_57 : decode cX10_look 57 = .ok (.iinc 3 1, 3) := by decide +kernel
theorem dX10_look_60 : decode cX10_look 60 = .ok (.goto (-54), 3) := by decide +kernel
theorem dX10_look_63 : decode cX10_look 63 = .ok (.iload_n 1, 1) := by decide +kernel
theorem dX10_look_64 : decode cX10_look 64 = .ok (.aload_n 0, 1) := by decide +kernel
theorem dX10_look_65 : decode cX10_look 65 = .ok (.getfield 161, 3) := by decide +kernel
theorem dX10_look_68 : decode cX10_look 68 = .ok (.if_icmp .gt 19, 3) := by decide +kernel
theorem dX10_look_71 : decode cX10_look 71 = .ok (.iload_n 1, 1) := by decide +kernel
theorem dX10_look_72 : decode cX10_look 72 = .ok (.aload_n 0, 1) := by decide +kernel
theorem dX10_look_73 : decode cX10_look 73 = .ok (.getfield 161, 3) := by decide +kernel
theorem dX10_look_76 : decode cX10_look 76 = .ok (.if_icmp .ne 46, 3) := by decide +kernel
theorem dX10_look_79 : decode cX10_look 79 = .ok (.iload_n 2, 1) := by decide +kernel
theorem dX10_look_80 : decode cX10_look 80 = .ok (.aload_n 0, 1) := by decide +kernel
theorem dX10_look_81 : decode cX10_look 81 = .ok (.getfield 164, 3) := by decide +kernel
theorem dX10_look_84 : decode cX10_look 84 = .ok (.if_icmp .ge 38, 3) := by decide +kernel
theorem dX10_look_87 : decode cX10_look 87 = .ok (.aload_n 0, 1) := by decide +kernel
theorem dX10_look_88 : decode cX10_look 88 = .ok (.iload_n 1, 1) := by decide +kernel
theorem dX10_look_89 : decode cX10_look 89 = .ok (.putfield 161, 3) := by decide +kernel
theorem dX10_look_92 : decode cX10_look 92 = .ok (.aload_n 0, 1) := by decide +kernel
theorem dX10_look_93 : decode cX10_look 93 = .ok (.iload_n 2, 1) := by decide +kernel
theorem dX10_look_94 : decode cX10_look 94 = .ok (.putfield 164, 3) := by decide +kernel
theorem dX10_look_97 : decode cX10_look 97 = .ok (.iconst 0, 1) := by decide +kernel
theorem dX10_look_98 : decode cX10_look 98 = .ok (.istore_n 3, 1) := by decide +kernel
theorem dX10_look_99 : decode cX10_look 99 = .ok (.iload_n 3, 1) := by decide +kernel
theorem dX10_look_100 : decode cX10_look 100 = .ok (.iconst 5, 1) := by decide +kernel
theorem dX10_look_101 : decode cX10_look 101 = .ok (.if_icmp .ge 21, 3) := by decide +kernel
theorem dX10_look_104 : decode cX10_look 104 = .ok (.aload_n 0, 1) := by decide +kernel
theorem dX10_look_105 : decode cX10_look 105 = .ok (.getfield 39, 3) := by decide +kernel
theorem dX10_look_108 : decode cX10_look 108 = .ok (.iload_n 3, 1) := by decide +kernel
theorem dX10_look_109 : decode cX10_look 109 = .ok (.aload_n 0, 1) := by decide +kernel
theorem dX10_look_110 : decode cX10_look 110 = .ok (.getfield 36, 3) := by decide +kernel
theorem dX10_look_113 : decode cX10_look 113 = .ok (.iload_n 3, 1) := by decide +kernel
theorem dX10_look_114 : decode cX10_look 114 = .ok (.iaload, 1) := by decide +kernel
theorem dX10_look_115 : decode cX10_look 115 = .ok (.iastore, 1) := by decide +kernel
theorem dX10_look_116 : decode cX10_look 116 = .ok (.iinc 3 1, 3) := by decide +kernel
theorem dX10_look_119 : decode cX10_look 119 = .ok (.goto (-20), 3) := by decide +kernel
theorem dX10_look_122 : decode cX10_look 122 = .ok (.return_, 1) := by decide +kernel
theorem dX10_findMet_0 : decode cX10_findMet 0 = .ok (.aload_n 0, 1) := by decide +kernel
theorem dX10_findMet_1 : decode cX10_findMet 1 = .ok (.iconst (-1), 1) := by decide +kernel
theorem dX10_findMet_2 : decode cX10_findMet 2 = .ok (.putfield 161, 3) := by decide +kernel
theorem dX10_findMet_5 : decode cX10_findMet 5 = .ok (.aload_n 0, 1) := by decide +kernel
theorem dX10_findMet_6 : decode cX10_findMet 6 = .ok (.iconst 0, 1) := by decide +kernel
theorem dX10_findMet_7 : decode cX10_findMet 7 = .ok (.putfield 164, 3) := by decide +kernel
theorem dX10_findMet_10 : decode cX10_findMet 10 = .ok (.aload_n 0, 1) := by decide +kernel
theorem dX10_findMet_11 : decode cX10_findMet 11 = .ok (.getfield 7, 3) := by decide +kernel
theorem dX10_findMet_14 : decode cX10_findMet 14 = .ok (.sipush 159, 3) := by decide +kernel
theorem dX10_findMet_17 : decode cX10_findMet 17 = .ok (.iaload, 1) := by decide +kernel
theorem dX10_findMet_18 : decode cX10_findMet 18 = .ok (.istore_n 1, 1) := by decide +kernel
theorem dX10_findMet_19 : decode cX10_findMet 19 = .ok (.iload_n 1, 1) := by decide +kernel
theorem dX10_findMet_20 : decode cX10_findMet 20 = .ok (.ifCond .ne 9, 3) := by decide +kernel
theorem dX10_findMet_23 : decode cX10_findMet 23 = .ok (.aload_n 0, 1) := by decide +kernel
theorem dX10_findMet_24 : decode cX10_findMet 24 = .ok (.iconst 0, 1) := by decide +kernel
theorem dX10_findMet_25 : decode cX10_findMet 25 = .ok (.putfield 161, 3) := by decide +kernel
theorem dX10_findMet_28 : decode cX10_findMet 28 = .ok (.return_, 1) := by decide +kernel
theorem dX10_findMet_29 : decode cX10_findMet 29 = .ok (.iconst 0, 1) := by decide +kernel
theorem dX10_findMet_30 : decode cX10_findMet 30 = .ok (.istore_n 2, 1) := by decide +kernel
theorem dX10_findMet_31 : decode cX10_findMet 31 = .ok (.aload_n 0, 1) := by decide +kernel
theorem dX10_findMet_32 : decode cX10_findMet 32 = .ok (.getfield 36, 3) := by decide +kernel
theorem dX10_findMet_35 : decode cX10_findMet 35 = .ok (.iconst 0, 1) := by decide +kernel
theorem dX10_findMet_36 : decode cX10_findMet 36 = .ok (.iconst (-1), 1) := by decide +kernel
theorem dX10_findMet_37 : decode cX10_findMet 37 = .ok (.iastore, 1) := by decide +kernel
theorem dX10_findMet_38 : decode cX10_findMet 38 = .ok (.iload_n 2, 1) := by decide +kernel
theorem dX10_findMet_39 : decode cX10_findMet 39 = .ok (.ifCond .lt 71, 3) := by decide +kernel
theorem dX10_findMet_42 : decode cX10_findMet 42 = .ok (.aload_n 0, 1) := by decide +kernel
theorem dX10_findMet_43 : decode cX10_findMet 43 = .ok (.getfield 36, 3) := by decide +kernel
theorem dX10_findMet_46 : decode cX10_findMet 46 = .ok (.iload_n 2, 1) := by decide +kernel
theorem dX10_findMet_47 : decode cX10_findMet 47 = .ok (.dup2, 1) := by decide +kernel
theorem dX10_findMet_48 : decode cX10_findMet 48 = .ok (.iaload, 1) := by decide +kernel
theorem dX10_findMet_49 : decode cX10_findMet 49 = .ok (.iconst 1, 1) := by decide +kernel
theorem dX10_findMet_50 : decode cX10_findMet 50 = .ok (.iadd, 1) := by decide +kernel
theorem dX10_findMet_51 : decode cX10_findMet 51 = .ok (.iastore, 1) := by decide +kernel
theorem dX10_findMet_52 : decode cX10_findMet 52 = .ok (.aload_n 0, 1) := by decide +kernel
theorem dX10_findMet_53 : decode cX10_findMet 53 = .ok (.getfield 36, 3) := by decide +kernel
theorem dX10_findMet_56 : decode cX10_findMet 56 = .ok (.iload_n 2, 1) := by decide +kernel
theorem dX10_findMet_57 : decode cX10_findMet 57 = .ok (.iaload, 1) := by decide +kernel
theorem dX10_findMet_58 : decode cX10_findMet 58 = .ok (.aload_n 0, 1) := by decide +kernel
theorem dX10_findMet_59 : decode cX10_findMet 59 = .ok (.getfield 7, 3) := by decide +kernel
theorem dX10_findMet_62 : decode cX10_findMet 62 = .ok (.sipush 158, 3) := by decide +kernel
theorem dX10_findMet_65 : decode cX10_findMet 65 = .ok (.iaload, 1) := by decide +kernel
theorem dX10_findMet_66 : decode cX10_findMet 66 = .ok (.if_icmp .le 9, 3) := by decide +kernel
theorem dX10_findMet_69 : decode cX10_findMet 69 = .ok (.iinc 2 (-1), 3) := by decide +kernel
theorem dX10_findMet_72 : decode cX10_findMet 72 = .ok (.goto (-34), 3) := by decide +kernel
theorem dX10_findMet_75 : decode cX10_findMet 75 = .ok (.aload_n 0, 1) := by decide +kernel
theorem dX10_findMet_76 : decode cX10_findMet 76 = .ok (.iload_n 2, 1) := by decide +kernel
theorem dX10_findMet_77 : decode cX10_findMet 77 = .ok (.invokevirtual 167, 3) := by decide +kernel
theorem dX10_findMet_80 : decode cX10_findMet 80 = .ok (.ifCond .eq (-42), 3) := by decide +kernel
theorem dX10_findMet_83 : decode cX10_findMet 83 = .ok (.iload_n 2, 1) := by decide +kernel
theorem dX10_findMet_84 : decode cX10_findMet 84 = .ok (.iload_n 1, 1) := by decide +kernel
theorem dX10_findMet_85 : decode cX10_findMet 85 = .ok (.iconst 1, 1) := by decide +kernel
theorem dX10_findMet_86 : decode cX10_findMet 86 = .ok (.isub, 1) := by decide +kernel
theorem dX10_findMet_87 : decode cX10_findMet 87 = .ok (.if_icmp .ne 10, 3) := by decide +kernel
theorem dX10_findMet_90 : decode cX10_findMet 90 = .ok (.aload_n 0, 1) := by decide +kernel
theorem dX10_findMet_91 : decode cX10_findMet 91 = .ok (.invokevirtual 170, 3) := by decide +kernel
theorem dX10_findMet_94 : decode cX10_findMet 94 = .ok (.goto (-56), 3) := by decide +kernel
theorem dX10_findMet_97 : decode cX10_findMet 97 = .ok (.iinc 2 1, 3) := by decide +kernel
theorem dX10_findMet_100 : decode cX10_findMet 100 = .ok (.aload_n 0, 1) := by decide +kernel
theorem dX10_findMet_101 : decode cX10_findMet 101 = .ok (.getfield 36, 3) := by decide +kernel
theorem dX10_findMet_104 : decode cX10_findMet 104 = .ok (.iload_n 2, 1) := by decide +kernel
theorem dX10_findMet_105 : decode cX10_findMet 105 = .ok (.iconst (-1), 1) := by decide +kernel
theorem dX10_findMet_106 : decode cX10_findMet 106 = .ok (.iastore, 1) := by decide +kernel
theorem dX10_findMet_107 : decode cX10_findMet 107 = .ok (.goto (-69), 3) := by decide +kernel
theorem dX10_findMet_110 : decode cX10_findMet 110 = .ok (.return_, 1) := by decide +kernel
theorem dX10_met_0 : decode cX10_met 0 = .ok (.iload_n 1, 1) := by decide +kernel
theorem dX10_met_1 : decode cX10_met 1 = .ok (.i2l, 1) := by decide +kernel
theorem dX10_met_2 : decode cX10_met 2 = .ok (.lconst 0, 1) := by decide +kernel
theorem dX10_met_3 : decode cX10_met 3 = .ok (.lconst 1, 1) := by decide +kernel
theorem dX10_met_4 : decode cX10_met 4 = .ok (.invokestatic 68, 3) := by decide +kernel
theorem dX10_met_7 : decode cX10_met 7 = .ok (.ifCond .ne 10, 3) := by decide +kernel
theorem dX10_met_10 : decode cX10_met 10 = .ok (.aload_n 0, 1) := by decide +kernel
theorem dX10_met_11 : decode cX10_met 11 = .ok (.bipush (-2), 2) := by decide +kernel
theorem dX10_met_13 : decode cX10_met 13 = .ok (.invokevirtual 80, 3) := by decide +kernel
theorem dX10_met_16 : decode cX10_met 16 = .ok (.ireturn, 1) := by decide +kernel
theorem dX10_met_17 : decode cX10_met 17 = .ok (.aload_n 0, 1) := by decide +kernel
theorem dX10_met_18 : decode cX10_met 18 = .ok (.invokevirtual 173, 3) := by decide +kernel
theorem dX10_met_21 : decode cX10_met 21 = .ok (.iload_n 1, 1) := by decide +kernel
theorem dX10_met_22 : decode cX10_met 22 = .ok (.ifCond .ne 10, 3) := by decide +kernel
theorem dX10_met_25 : decode cX10_met 25 = .ok (.aload_n 0, 1) := by decide +kernel
theorem dX10_met_26 : decode cX10_met 26 = .ok (.getfield 161, 3) := by decide +kernel
theorem dX10_met_29 : decode cX10_met 29 = .ok (.goto 7, 3) := by decide +kernel
theorem dX10_met_32 : decode cX10_met 32 = .ok (.aload_n 0, 1) := by decide +kernel
theorem dX10_met_33 : decode cX10_met 33 = .ok (.getfield 164, 3) := by decide +kernel
theorem dX10_met_36 : decode cX10_met 36 = .ok (.ireturn, 1) := by decide +kernel
theorem dX10_plan_0 : decode cX10_plan 0 = .ok (.iload_n 1, 1) := by decide +kernel
theorem dX10_plan_1 : decode cX10_plan 1 = .ok (.i2l, 1) := by decide +kernel
theorem dX10_plan_2 : decode cX10_plan 2 = .ok (.lconst 0, 1) := by decide +kernel
theorem dX10_plan_3 : decode cX10_plan 3 = .ok (.aload_n 0, 1) := by decide +kernel
theorem dX10_plan_4 : decode cX10_plan 4 = .ok (.getfield 7, 3) := by decide +kernel
theorem dX10_plan_7 : decode cX10_plan 7 = .ok (.sipush 159, 3) := by decide +kernel
theorem dX10_plan_10 : decode cX10_plan 10 = .ok (.iaload, 1) := by decide +kernel
theorem dX10_plan_11 : decode cX10_plan 11 = .ok (.iconst 1, 1) := by decide +kernel
theorem dX10_plan_12 : decode cX10_plan 12 = .ok (.isub, 1) := by decide +kernel
theorem dX10_plan_13 : decode cX10_plan 13 = .ok (.i2l, 1) := by decide +kernel
theorem dX10_plan_14 : decode cX10_plan 14 = .ok (.invokestatic 68, 3) := by decide +kernel
theorem dX10_plan_17 : decode cX10_plan 17 = .ok (.ifCond .ne 10, 3) := by decide +kernel
theorem dX10_plan_20 : decode cX10_plan 20 = .ok (.aload_n 0, 1) := by decide +kernel
theorem dX10_plan_21 : decode cX10_plan 21 = .ok (.bipush (-2), 2) := by decide +kernel
theorem dX10_plan_23 : decode cX10_plan 23 = .ok (.invokevirtual 80, 3) := by decide +kernel
theorem dX10_plan_26 : decode cX10_plan 26 = .ok (.ireturn, 1) := by decide +kernel
theorem dX10_plan_27 : decode cX10_plan 27 = .ok (.aload_n 0, 1) := by decide +kernel
theorem dX10_plan_28 : decode cX10_plan 28 = .ok (.invokevirtual 173, 3) := by decide +kernel
theorem dX10_plan_31 : decode cX10_plan 31 = .ok (.aload_n 0, 1) := by decide +kernel
theorem dX10_plan_32 : decode cX10_plan 32 = .ok (.getfield 39, 3) := by decide +kernel
theorem dX10_plan_35 : decode cX10_plan 35 = .ok (.iload_n 1, 1) := by decide +kernel
theorem dX10_plan_36 : decode cX10_plan 36 = .ok (.iaload, 1) := by decide +kernel
theorem dX10_plan_37 : decode cX10_plan 37 = .ok (.aload_n 0, 1) := by decide +kernel
theorem dX10_plan_38 : decode cX10_plan 38 = .ok (.getfield 7, 3) := by decide +kernel
theorem dX10_plan_41 : decode cX10_plan 41 = .ok (.sipush 158, 3) := by decide +kernel
theorem dX10_plan_44 : decode cX10_plan 44 = .ok (.iaload, 1) := by decide +kernel
theorem dX10_plan_45 : decode cX10_plan 45 = .ok (.if_icmp .ne 7, 3) := by decide +kernel
theorem dX10_plan_48 : decode cX10_plan 48 = .ok (.iconst (-1), 1) := by decide +kernel
theorem dX10_plan_49 : decode cX10_plan 49 = .ok (.goto 9, 3) := by decide +kernel
theorem dX10_plan_52 : decode cX10_plan 52 = .ok (.aload_n 0, 1) := by decide +kernel
theorem dX10_plan_53 : decode cX10_plan 53 = .ok (.getfield 39, 3) := by decide +kernel
theorem dX10_plan_56 : decode cX10_plan 56 = .ok (.iload_n 1, 1) := by decide +kernel
theorem dX10_plan_57 : decode cX10_plan 57 = .ok (.iaload, 1) := by decide +kernel
theorem dX10_plan_58 : decode cX10_plan 58 = .ok (.ireturn, 1) := by decide +kernel
theorem dX10_toDo_0 : decode cX10_toDo 0 = .ok (.iconst 0, 1) := by decide +kernel
theorem dX10_toDo_1 : decode cX10_toDo 1 = .ok (.istore_n 3, 1) := by decide +kernel
theorem dX10_toDo_2 : decode cX10_toDo 2 = .ok (.iconst 0, 1) := by decide +kernel
theorem dX10_toDo_3 : decode cX10_toDo 3 = .ok (.istore 4, 2) := by decide +kernel
theorem dX10_toDo_5 : decode cX10_toDo 5 = .ok (.iload 4, 2) := by decide +kernel
theorem dX10_toDo_7 : decode cX10_toDo 7 = .ok (.aload_n 0, 1) := by decide +kernel
theorem dX10_toDo_8 : decode cX10_toDo 8 = .ok (.getfield 7, 3) := by decide +kernel
theorem dX10_toDo_11 : decode cX10_toDo 11 = .ok (.sipush 158, 3) := by decide +kernel
theorem dX10_toDo_14 : decode cX10_toDo 14 = .ok (.iaload, 1) := by decide +kernel
theorem dX10_toDo_15 : decode cX10_toDo 15 = .ok (.if_icmp .ge 34, 3) := by decide +kernel
theorem dX10_toDo_18 : decode cX10_toDo 18 = .ok (.iload_n 3, 1) := by decide +kernel
theorem dX10_toDo_19 : decode cX10_toDo 19 = .ok (.aload_n 0, 1) := by decide +kernel
theorem dX10_toDo_20 : decode cX10_toDo 20 = .ok (.iload 4, 2) := by decide +kernel
theorem dX10_toDo_22 : decode cX10_toDo 22 = .ok (.iconst 1, 1) := by decide +kernel
theorem dX10_toDo_23 : decode cX10_toDo 23 = .ok (.invokevirtual 112, 3) := by decide +kernel
theorem dX10_toDo_26 : decode cX10_toDo 26 = .ok (.iload_n 1, 1) := by decide +kernel
theorem dX10_toDo_27 : decode cX10_toDo 27 = .ok (.if_icmp .ne 13, 3) := by decide +kernel
theorem dX10_toDo_30 : decode cX10_toDo 30 = .ok (.aload_n 0, 1) := by decide +kernel
theorem dX10_toDo_31 : decode cX10_toDo 31 = .ok (.iload 4, 2) := by decide +kernel
theorem dX10_toDo_33 : decode cX10_toDo 33 = .ok (.iload_n 2, 1) := by decide +kernel
theorem dX10_toDo_34 : decode cX10_toDo 34 = .ok (.invokevirtual 119, 3) := by decide +kernel
theorem dX10_toDo_37 : decode cX10_toDo 37 = .ok (.goto 4, 3) := by decide +kernel
theorem dX10_toDo_40 : decode cX10_toDo 40 = .ok (.iconst 0, 1) := by decide +kernel
theorem dX10_toDo_41 : decode cX10_toDo 41 = .ok (.iadd, 1) := by decide +kernel
theorem dX10_toDo_42 : decode cX10_toDo 42 = .ok (.istore_n 3, 1) := by decide +kernel
theorem dX10_toDo_43 : decode cX10_toDo 43 = .ok (.iinc 4 1, 3) := by decide +kernel
theorem dX10_toDo_46 : decode cX10_toDo 46 = .ok (.goto (-41), 3) := by decide +kernel
theorem dX10_toDo_49 : decode cX10_toDo 49 = .ok (.iload_n 3, 1) := by decide +kernel
theorem dX10_toDo_50 : decode cX10_toDo 50 = .ok (.ireturn, 1) := by decide +kernel
theorem dX10_doneFor_0 : decode cX10_doneFor 0 = .ok (.iconst 0, 1) := by decide +kernel
theorem dX10_doneFor_1 : decode cX10_doneFor 1 = .ok (.istore 4, 2) := by decide +kernel
theorem dX10_doneFor_3 : decode cX10_doneFor 3 = .ok (.iconst 0, 1) := by decide +kernel
theorem dX10_doneFor_4 : decode cX10_doneFor 4 = .ok (.istore 5, 2) := by decide +kernel
theorem dX10_doneFor_6 : decode cX10_doneFor 6 = .ok (.iload 5, 2) := by decide +kernel
theorem dX10_doneFor_8 : decode cX10_doneFor 8 = .ok (.aload_n 0, 1) := by decide +kernel
theorem dX10_doneFor_9 : decode cX10_doneFor 9 = .ok (.getfield 7, 3) := by decide +kernel
theorem dX10_doneFor_12 : decode cX10_doneFor 12 = .ok (.sipush 158, 3) := by decide +kernel
theorem dX10_doneFor_15 : decode cX10_doneFor 15 = .ok (.iaload, 1) := by decide +kernel
theorem dX10_doneFor_16 : decode cX10_doneFor 16 = .ok (.if_icmp .ge 50, 3) := by decide +kernel
theorem dX10_doneFor_19 : decode cX10_doneFor 19 = .ok (.iload 4, 2) := by decide +kernel
theorem dX10_doneFor_21 : decode cX10_doneFor 21 = .ok (.aload_n 0, 1) := by decide +kernel
theorem dX10_doneFor_22 : decode cX10_doneFor 22 = .ok (.iload 5, 2) := by decide +kernel
theorem dX10_doneFor_24 : decode cX10_doneFor 24 = .ok (.iconst 2, 1) := by decide +kernel
theorem dX10_doneFor_25 : decode cX10_doneFor 25 = .ok (.invokevirtual 112, 3) := by decide +kernel
theorem dX10_doneFor_28 : decode cX10_doneFor 28 = .ok (.iload_n 1, 1) := by decide +kernel
theorem dX10_doneFor_29 : decode cX10_doneFor 29 = .ok (.if_icmp .ne 27, 3) := by decide +kernel
theorem dX10_doneFor_32 : decode cX10_doneFor 32 = .ok (.iload_n 3, 1) := by decide +kernel
theorem dX10_doneFor_33 : decode cX10_doneFor 33 = .ok (.aload_n 0, 1) := by decide +kernel
theorem dX10_doneFor_34 : decode cX10_doneFor 34 = .ok (.iload 5, 2) := by decide +kernel
theorem dX10_doneFor_36 : decode cX10_doneFor 36 = .ok (.iconst 1, 1) := by decide +kernel
theorem dX10_doneFor_37 : decode cX10_doneFor 37 = .ok (.invokevirtual 112, 3) := by decide +kernel
theorem dX10_doneFor_40 : decode cX10_doneFor 40 = .ok (.ishr, 1) := by decide +kernel
theorem dX10_doneFor_41 : decode cX10_doneFor 41 = .ok (.iconst 1, 1) := by decide +kernel
theorem dX10_doneFor_42 : decode cX10_doneFor 42 = .ok (.iand, 1) := by decide +kernel
theorem dX10_doneFor_43 : decode cX10_doneFor 43 = .ok (.ifCond .ne 13, 3) := by decide +kernel
theorem dX10_doneFor_46 : decode cX10_doneFor 46 = .ok (.aload_n 0, 1) := by decide +kernel
theorem dX10_doneFor_47 : decode cX10_doneFor 47 = .ok (.iload 5, 2) := by decide +kernel
theorem dX10_doneFor_49 : decode cX10_doneFor 49 = .ok (.iload_n 2, 1) := by decide +kernel
theorem dX10_doneFor_50 : decode cX10_doneFor 50 = .ok (.invokevirtual 119, 3) := by decide +kernel
theorem dX10_doneFor_53 : decode cX10_doneFor 53 = .ok (.goto 4, 3) := by decide +kernel
theorem dX10_doneFor_56 : decode cX10_doneFor 56 = .ok (.iconst 0, 1) := by decide +kernel
theorem dX10_doneFor_57 : decode cX10_doneFor 57 = .ok (.iadd, 1) := by decide +kernel
theorem dX10_doneFor_58 : decode cX10_doneFor 58 = .ok (.istore 4, 2) := by decide +kernel
theorem dX10_doneFor_60 : decode cX10_doneFor 60 = .ok (.iinc 5 1, 3) := by decide +kernel
theorem dX10_doneFor_63 : decode cX10_doneFor 63 = .ok (.goto (-57), 3) := by decide +kernel
theorem dX10_doneFor_66 : decode cX10_doneFor 66 = .ok (.iload 4, 2) := by decide +kernel
